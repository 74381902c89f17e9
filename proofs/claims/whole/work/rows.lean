section
-- ===== PART A: goes FIRST, ahead of the names: the tables' words, and 'selects' of the private methods out of them =====
/-- a private method of a class that the tables say can be made, by its rows of tables_1 -/
def lw_okq (q : MethodName × Nat) : Prop := (q.1.cls ≠ "java/lang/invoke/MethodHandle" ∧ q.1.cls ≠ "java/lang/invoke/VarHandle") ∧ Cond.instantiable q.1.cls q.2 ∈ tables_1 ∧ Cond.privateMethod q.1 ∈ tables_1 ∧ Cond.instanceMethod q.1 ∈ tables_1
theorem lw_p0 : lw_okq (⟨"LeansAgainstReason", "refuse", "(I)I"⟩, 8) := ⟨⟨by decide +kernel, by decide +kernel⟩, List.mem_of_getElem? (i := 17) (by decide +kernel), List.mem_of_getElem? (i := 154) (by decide +kernel), List.mem_of_getElem? (i := 155) (by decide +kernel)⟩
theorem lw_p1 : lw_okq (⟨"LeansAgainstReason$Rack", "weigh", "(II)V"⟩, 12) := ⟨⟨by decide +kernel, by decide +kernel⟩, List.mem_of_getElem? (i := 31) (by decide +kernel), List.mem_of_getElem? (i := 352) (by decide +kernel), List.mem_of_getElem? (i := 353) (by decide +kernel)⟩
theorem lw_p2 : lw_okq (⟨"LeansAgainstReason$Rack", "heaviestOn", "(I)I"⟩, 12) := ⟨⟨by decide +kernel, by decide +kernel⟩, List.mem_of_getElem? (i := 31) (by decide +kernel), List.mem_of_getElem? (i := 383) (by decide +kernel), List.mem_of_getElem? (i := 384) (by decide +kernel)⟩
theorem lw_p3 : lw_okq (⟨"LeansAgainstReason", "lessNextDay", "(I)I"⟩, 8) := ⟨⟨by decide +kernel, by decide +kernel⟩, List.mem_of_getElem? (i := 17) (by decide +kernel), List.mem_of_getElem? (i := 413) (by decide +kernel), List.mem_of_getElem? (i := 414) (by decide +kernel)⟩
theorem lw_p4 : lw_okq (⟨"LeansAgainstReason", "offUpThing", "(I)I"⟩, 8) := ⟨⟨by decide +kernel, by decide +kernel⟩, List.mem_of_getElem? (i := 17) (by decide +kernel), List.mem_of_getElem? (i := 470) (by decide +kernel), List.mem_of_getElem? (i := 471) (by decide +kernel)⟩
theorem lw_p5 : lw_okq (⟨"LeansAgainstReason$Mind", "downFromThen", "(I)I"⟩, 3) := ⟨⟨by decide +kernel, by decide +kernel⟩, List.mem_of_getElem? (i := 25) (by decide +kernel), List.mem_of_getElem? (i := 528) (by decide +kernel), List.mem_of_getElem? (i := 529) (by decide +kernel)⟩
theorem lw_p6 : lw_okq (⟨"LeansAgainstReason$Mind", "standingWith", "(III)I"⟩, 3) := ⟨⟨by decide +kernel, by decide +kernel⟩, List.mem_of_getElem? (i := 25) (by decide +kernel), List.mem_of_getElem? (i := 634) (by decide +kernel), List.mem_of_getElem? (i := 635) (by decide +kernel)⟩
theorem lw_p7 : lw_okq (⟨"LeansAgainstReason$Rack", "weightOf", "(I)I"⟩, 12) := ⟨⟨by decide +kernel, by decide +kernel⟩, List.mem_of_getElem? (i := 31) (by decide +kernel), List.mem_of_getElem? (i := 659) (by decide +kernel), List.mem_of_getElem? (i := 660) (by decide +kernel)⟩
theorem lw_p8 : lw_okq (⟨"LeansAgainstReason", "offDraught", "(IIII)I"⟩, 8) := ⟨⟨by decide +kernel, by decide +kernel⟩, List.mem_of_getElem? (i := 17) (by decide +kernel), List.mem_of_getElem? (i := 688) (by decide +kernel), List.mem_of_getElem? (i := 689) (by decide +kernel)⟩
theorem lw_p9 : lw_okq (⟨"LeansAgainstReason$Mind", "isUpDraughted", "(III)Z"⟩, 3) := ⟨⟨by decide +kernel, by decide +kernel⟩, List.mem_of_getElem? (i := 25) (by decide +kernel), List.mem_of_getElem? (i := 697) (by decide +kernel), List.mem_of_getElem? (i := 698) (by decide +kernel)⟩
theorem lw_p10 : lw_okq (⟨"LeansAgainstReason$Mind", "standingPushed", "(III)I"⟩, 3) := ⟨⟨by decide +kernel, by decide +kernel⟩, List.mem_of_getElem? (i := 25) (by decide +kernel), List.mem_of_getElem? (i := 718) (by decide +kernel), List.mem_of_getElem? (i := 719) (by decide +kernel)⟩
theorem lw_p11 : lw_okq (⟨"LeansAgainstReason", "kindsThatFit", "(I)I"⟩, 8) := ⟨⟨by decide +kernel, by decide +kernel⟩, List.mem_of_getElem? (i := 17) (by decide +kernel), List.mem_of_getElem? (i := 726) (by decide +kernel), List.mem_of_getElem? (i := 727) (by decide +kernel)⟩
theorem lw_p12 : lw_okq (⟨"LeansAgainstReason", "figuresThatFit", "(I)I"⟩, 8) := ⟨⟨by decide +kernel, by decide +kernel⟩, List.mem_of_getElem? (i := 17) (by decide +kernel), List.mem_of_getElem? (i := 735) (by decide +kernel), List.mem_of_getElem? (i := 736) (by decide +kernel)⟩
theorem lw_p13 : lw_okq (⟨"LeansAgainstReasonModel", "no", "(I)I"⟩, 14) := ⟨⟨by decide +kernel, by decide +kernel⟩, List.mem_of_getElem? (i := 782) (by decide +kernel), List.mem_of_getElem? (i := 835) (by decide +kernel), List.mem_of_getElem? (i := 836) (by decide +kernel)⟩
theorem lw_p14 : lw_okq (⟨"LeansAgainstReasonModel", "readsStatement", "()Z"⟩, 14) := ⟨⟨by decide +kernel, by decide +kernel⟩, List.mem_of_getElem? (i := 782) (by decide +kernel), List.mem_of_getElem? (i := 843) (by decide +kernel), List.mem_of_getElem? (i := 844) (by decide +kernel)⟩
theorem lw_p15 : lw_okq (⟨"LeansAgainstReasonModel", "here", "()I"⟩, 14) := ⟨⟨by decide +kernel, by decide +kernel⟩, List.mem_of_getElem? (i := 782) (by decide +kernel), List.mem_of_getElem? (i := 847) (by decide +kernel), List.mem_of_getElem? (i := 848) (by decide +kernel)⟩
def lw_privs_1 : List (MethodName × Nat) := [(⟨"LeansAgainstReason", "refuse", "(I)I"⟩, 8), (⟨"LeansAgainstReason$Rack", "weigh", "(II)V"⟩, 12), (⟨"LeansAgainstReason$Rack", "heaviestOn", "(I)I"⟩, 12), (⟨"LeansAgainstReason", "lessNextDay", "(I)I"⟩, 8), (⟨"LeansAgainstReason", "offUpThing", "(I)I"⟩, 8), (⟨"LeansAgainstReason$Mind", "downFromThen", "(I)I"⟩, 3), (⟨"LeansAgainstReason$Mind", "standingWith", "(III)I"⟩, 3), (⟨"LeansAgainstReason$Rack", "weightOf", "(I)I"⟩, 12), (⟨"LeansAgainstReason", "offDraught", "(IIII)I"⟩, 8), (⟨"LeansAgainstReason$Mind", "isUpDraughted", "(III)Z"⟩, 3), (⟨"LeansAgainstReason$Mind", "standingPushed", "(III)I"⟩, 3), (⟨"LeansAgainstReason", "kindsThatFit", "(I)I"⟩, 8), (⟨"LeansAgainstReason", "figuresThatFit", "(I)I"⟩, 8), (⟨"LeansAgainstReasonModel", "no", "(I)I"⟩, 14), (⟨"LeansAgainstReasonModel", "readsStatement", "()Z"⟩, 14), (⟨"LeansAgainstReasonModel", "here", "()I"⟩, 14)]
theorem lw_r1 : ∀ q ∈ lw_privs_1, lw_okq q := List.forall_mem_cons.mpr ⟨lw_p0, List.forall_mem_cons.mpr ⟨lw_p1, List.forall_mem_cons.mpr ⟨lw_p2, List.forall_mem_cons.mpr ⟨lw_p3, List.forall_mem_cons.mpr ⟨lw_p4, List.forall_mem_cons.mpr ⟨lw_p5, List.forall_mem_cons.mpr ⟨lw_p6, List.forall_mem_cons.mpr ⟨lw_p7, List.forall_mem_cons.mpr ⟨lw_p8, List.forall_mem_cons.mpr ⟨lw_p9, List.forall_mem_cons.mpr ⟨lw_p10, List.forall_mem_cons.mpr ⟨lw_p11, List.forall_mem_cons.mpr ⟨lw_p12, List.forall_mem_cons.mpr ⟨lw_p13, List.forall_mem_cons.mpr ⟨lw_p14, List.forall_mem_cons.mpr ⟨lw_p15, fun _ h => absurd h List.not_mem_nil⟩⟩⟩⟩⟩⟩⟩⟩⟩⟩⟩⟩⟩⟩⟩⟩
theorem lw_p16 : lw_okq (⟨"LeansAgainstReasonModel", "readsKind", "()Z"⟩, 14) := ⟨⟨by decide +kernel, by decide +kernel⟩, List.mem_of_getElem? (i := 782) (by decide +kernel), List.mem_of_getElem? (i := 851) (by decide +kernel), List.mem_of_getElem? (i := 852) (by decide +kernel)⟩
theorem lw_p17 : lw_okq (⟨"LeansAgainstReasonModel", "readsNumber", "(II)Z"⟩, 14) := ⟨⟨by decide +kernel, by decide +kernel⟩, List.mem_of_getElem? (i := 782) (by decide +kernel), List.mem_of_getElem? (i := 858) (by decide +kernel), List.mem_of_getElem? (i := 859) (by decide +kernel)⟩
theorem lw_p18 : lw_okq (⟨"LeansAgainstReasonModel", "isDone", "(I)Z"⟩, 14) := ⟨⟨by decide +kernel, by decide +kernel⟩, List.mem_of_getElem? (i := 782) (by decide +kernel), List.mem_of_getElem? (i := 868) (by decide +kernel), List.mem_of_getElem? (i := 869) (by decide +kernel)⟩
theorem lw_p19 : lw_okq (⟨"LeansAgainstReasonModel", "addsPurpose", "(III)Z"⟩, 14) := ⟨⟨by decide +kernel, by decide +kernel⟩, List.mem_of_getElem? (i := 782) (by decide +kernel), List.mem_of_getElem? (i := 872) (by decide +kernel), List.mem_of_getElem? (i := 873) (by decide +kernel)⟩
theorem lw_p20 : lw_okq (⟨"LeansAgainstReasonModel", "addsThing", "(III)Z"⟩, 14) := ⟨⟨by decide +kernel, by decide +kernel⟩, List.mem_of_getElem? (i := 782) (by decide +kernel), List.mem_of_getElem? (i := 879) (by decide +kernel), List.mem_of_getElem? (i := 880) (by decide +kernel)⟩
theorem lw_p21 : lw_okq (⟨"LeansAgainstReasonModel", "isPurpose", "(I)Z"⟩, 14) := ⟨⟨by decide +kernel, by decide +kernel⟩, List.mem_of_getElem? (i := 782) (by decide +kernel), List.mem_of_getElem? (i := 892) (by decide +kernel), List.mem_of_getElem? (i := 893) (by decide +kernel)⟩
theorem lw_p22 : lw_okq (⟨"LeansAgainstReasonModel", "isThing", "(I)Z"⟩, 14) := ⟨⟨by decide +kernel, by decide +kernel⟩, List.mem_of_getElem? (i := 782) (by decide +kernel), List.mem_of_getElem? (i := 896) (by decide +kernel), List.mem_of_getElem? (i := 897) (by decide +kernel)⟩
theorem lw_p23 : lw_okq (⟨"LeansAgainstReasonModel", "daysOn", "([II)V"⟩, 14) := ⟨⟨by decide +kernel, by decide +kernel⟩, List.mem_of_getElem? (i := 782) (by decide +kernel), List.mem_of_getElem? (i := 900) (by decide +kernel), List.mem_of_getElem? (i := 901) (by decide +kernel)⟩
theorem lw_p24 : lw_okq (⟨"LeansAgainstReasonModel", "day", "([I)V"⟩, 14) := ⟨⟨by decide +kernel, by decide +kernel⟩, List.mem_of_getElem? (i := 782) (by decide +kernel), List.mem_of_getElem? (i := 904) (by decide +kernel), List.mem_of_getElem? (i := 905) (by decide +kernel)⟩
theorem lw_p25 : lw_okq (⟨"LeansAgainstReasonModel", "noFar", "(I)I"⟩, 14) := ⟨⟨by decide +kernel, by decide +kernel⟩, List.mem_of_getElem? (i := 782) (by decide +kernel), List.mem_of_getElem? (i := 937) (by decide +kernel), List.mem_of_getElem? (i := 938) (by decide +kernel)⟩
theorem lw_p26 : lw_okq (⟨"LeansAgainstReasonModel", "wrongUp", "(I)I"⟩, 14) := ⟨⟨by decide +kernel, by decide +kernel⟩, List.mem_of_getElem? (i := 782) (by decide +kernel), List.mem_of_getElem? (i := 966) (by decide +kernel), List.mem_of_getElem? (i := 967) (by decide +kernel)⟩
theorem lw_p27 : lw_okq (⟨"LeansAgainstReasonModel", "takesOn", "(I)V"⟩, 14) := ⟨⟨by decide +kernel, by decide +kernel⟩, List.mem_of_getElem? (i := 782) (by decide +kernel), List.mem_of_getElem? (i := 995) (by decide +kernel), List.mem_of_getElem? (i := 996) (by decide +kernel)⟩
theorem lw_p28 : lw_okq (⟨"LeansAgainstReasonModel", "upIn", "(I)I"⟩, 14) := ⟨⟨by decide +kernel, by decide +kernel⟩, List.mem_of_getElem? (i := 782) (by decide +kernel), List.mem_of_getElem? (i := 1003) (by decide +kernel), List.mem_of_getElem? (i := 1004) (by decide +kernel)⟩
theorem lw_p29 : lw_okq (⟨"LeansAgainstReasonModel", "fallsOf", "(I)I"⟩, 14) := ⟨⟨by decide +kernel, by decide +kernel⟩, List.mem_of_getElem? (i := 782) (by decide +kernel), List.mem_of_getElem? (i := 1015) (by decide +kernel), List.mem_of_getElem? (i := 1016) (by decide +kernel)⟩
theorem lw_p30 : lw_okq (⟨"LeansAgainstReasonModel", "downIn", "(IZ)I"⟩, 14) := ⟨⟨by decide +kernel, by decide +kernel⟩, List.mem_of_getElem? (i := 782) (by decide +kernel), List.mem_of_getElem? (i := 1019) (by decide +kernel), List.mem_of_getElem? (i := 1020) (by decide +kernel)⟩
theorem lw_p31 : lw_okq (⟨"LeansAgainstReasonModel", "pushedBy", "(I)I"⟩, 14) := ⟨⟨by decide +kernel, by decide +kernel⟩, List.mem_of_getElem? (i := 782) (by decide +kernel), List.mem_of_getElem? (i := 1031) (by decide +kernel), List.mem_of_getElem? (i := 1032) (by decide +kernel)⟩
def lw_privs_2 : List (MethodName × Nat) := [(⟨"LeansAgainstReasonModel", "readsKind", "()Z"⟩, 14), (⟨"LeansAgainstReasonModel", "readsNumber", "(II)Z"⟩, 14), (⟨"LeansAgainstReasonModel", "isDone", "(I)Z"⟩, 14), (⟨"LeansAgainstReasonModel", "addsPurpose", "(III)Z"⟩, 14), (⟨"LeansAgainstReasonModel", "addsThing", "(III)Z"⟩, 14), (⟨"LeansAgainstReasonModel", "isPurpose", "(I)Z"⟩, 14), (⟨"LeansAgainstReasonModel", "isThing", "(I)Z"⟩, 14), (⟨"LeansAgainstReasonModel", "daysOn", "([II)V"⟩, 14), (⟨"LeansAgainstReasonModel", "day", "([I)V"⟩, 14), (⟨"LeansAgainstReasonModel", "noFar", "(I)I"⟩, 14), (⟨"LeansAgainstReasonModel", "wrongUp", "(I)I"⟩, 14), (⟨"LeansAgainstReasonModel", "takesOn", "(I)V"⟩, 14), (⟨"LeansAgainstReasonModel", "upIn", "(I)I"⟩, 14), (⟨"LeansAgainstReasonModel", "fallsOf", "(I)I"⟩, 14), (⟨"LeansAgainstReasonModel", "downIn", "(IZ)I"⟩, 14), (⟨"LeansAgainstReasonModel", "pushedBy", "(I)I"⟩, 14)]
theorem lw_r2 : ∀ q ∈ lw_privs_2, lw_okq q := List.forall_mem_cons.mpr ⟨lw_p16, List.forall_mem_cons.mpr ⟨lw_p17, List.forall_mem_cons.mpr ⟨lw_p18, List.forall_mem_cons.mpr ⟨lw_p19, List.forall_mem_cons.mpr ⟨lw_p20, List.forall_mem_cons.mpr ⟨lw_p21, List.forall_mem_cons.mpr ⟨lw_p22, List.forall_mem_cons.mpr ⟨lw_p23, List.forall_mem_cons.mpr ⟨lw_p24, List.forall_mem_cons.mpr ⟨lw_p25, List.forall_mem_cons.mpr ⟨lw_p26, List.forall_mem_cons.mpr ⟨lw_p27, List.forall_mem_cons.mpr ⟨lw_p28, List.forall_mem_cons.mpr ⟨lw_p29, List.forall_mem_cons.mpr ⟨lw_p30, List.forall_mem_cons.mpr ⟨lw_p31, fun _ h => absurd h List.not_mem_nil⟩⟩⟩⟩⟩⟩⟩⟩⟩⟩⟩⟩⟩⟩⟩⟩
theorem lw_p32 : lw_okq (⟨"LeansAgainstReasonModel", "upWith", "(III)I"⟩, 14) := ⟨⟨by decide +kernel, by decide +kernel⟩, List.mem_of_getElem? (i := 782) (by decide +kernel), List.mem_of_getElem? (i := 1062) (by decide +kernel), List.mem_of_getElem? (i := 1063) (by decide +kernel)⟩
theorem lw_p33 : lw_okq (⟨"LeansAgainstReasonModel", "weightOf", "(I)I"⟩, 14) := ⟨⟨by decide +kernel, by decide +kernel⟩, List.mem_of_getElem? (i := 782) (by decide +kernel), List.mem_of_getElem? (i := 1078) (by decide +kernel), List.mem_of_getElem? (i := 1079) (by decide +kernel)⟩
theorem lw_p34 : lw_okq (⟨"LeansAgainstReasonModel", "pushesLeast", "(Z)V"⟩, 14) := ⟨⟨by decide +kernel, by decide +kernel⟩, List.mem_of_getElem? (i := 782) (by decide +kernel), List.mem_of_getElem? (i := 1086) (by decide +kernel), List.mem_of_getElem? (i := 1087) (by decide +kernel)⟩
theorem lw_p35 : lw_okq (⟨"LeansAgainstReasonModel", "noWide", "(I)J"⟩, 14) := ⟨⟨by decide +kernel, by decide +kernel⟩, List.mem_of_getElem? (i := 782) (by decide +kernel), List.mem_of_getElem? (i := 1105) (by decide +kernel), List.mem_of_getElem? (i := 1106) (by decide +kernel)⟩
theorem lw_p36 : lw_okq (⟨"LeansAgainstReasonModel", "upPushed", "(IIIII)I"⟩, 14) := ⟨⟨by decide +kernel, by decide +kernel⟩, List.mem_of_getElem? (i := 782) (by decide +kernel), List.mem_of_getElem? (i := 1120) (by decide +kernel), List.mem_of_getElem? (i := 1121) (by decide +kernel)⟩
theorem lw_p37 : lw_okq (⟨"LeansAgainstReasonModel", "drawn", "(I)I"⟩, 14) := ⟨⟨by decide +kernel, by decide +kernel⟩, List.mem_of_getElem? (i := 782) (by decide +kernel), List.mem_of_getElem? (i := 1144) (by decide +kernel), List.mem_of_getElem? (i := 1145) (by decide +kernel)⟩
def lw_privs_3 : List (MethodName × Nat) := [(⟨"LeansAgainstReasonModel", "upWith", "(III)I"⟩, 14), (⟨"LeansAgainstReasonModel", "weightOf", "(I)I"⟩, 14), (⟨"LeansAgainstReasonModel", "pushesLeast", "(Z)V"⟩, 14), (⟨"LeansAgainstReasonModel", "noWide", "(I)J"⟩, 14), (⟨"LeansAgainstReasonModel", "upPushed", "(IIIII)I"⟩, 14), (⟨"LeansAgainstReasonModel", "drawn", "(I)I"⟩, 14)]
theorem lw_r3 : ∀ q ∈ lw_privs_3, lw_okq q := List.forall_mem_cons.mpr ⟨lw_p32, List.forall_mem_cons.mpr ⟨lw_p33, List.forall_mem_cons.mpr ⟨lw_p34, List.forall_mem_cons.mpr ⟨lw_p35, List.forall_mem_cons.mpr ⟨lw_p36, List.forall_mem_cons.mpr ⟨lw_p37, fun _ h => absurd h List.not_mem_nil⟩⟩⟩⟩⟩⟩
def lw_privs : List (MethodName × Nat) := lw_privs_1 ++ (lw_privs_2 ++ (lw_privs_3))
def lw_tbl : List Cond := k2_sels lw_privs ++ tables_1
theorem lw_privs_ok : ∀ q ∈ lw_privs, lw_okq q := by
  show ∀ q ∈ lw_privs_1 ++ (lw_privs_2 ++ (lw_privs_3)), lw_okq q
  exact List.forall_mem_append.mpr ⟨lw_r1, List.forall_mem_append.mpr ⟨lw_r2, lw_r3⟩⟩

/-! names, as printed -/
def RX0 : String := "LeansAgainstReason$Letters"
def TX0 : u_T := fun k => match k with
  | 0 => ("LeansAgainstReason$Letters", "told", "[I", true)
  | _ => ("LeansAgainstReason$Letters", "many", "I", false)
def tyX0 : Nat → FieldType := fun k => match k with
  | 0 => .array .int
  | _ => .int
abbrev wsX00 : List Cond := u_ws RX0 TX0 2
theorem nmX0 : ∀ a, a < 2 → ∀ b, b < 2 → a ≠ b → (TX0 a).2.1 ≠ (TX0 b).2.1 := by decide +kernel
theorem tyX0_ok : ∀ k, k < 2 → parseFieldDescriptor (TX0 k).2.2.1 = some (tyX0 k) := by decide +kernel
abbrev cX0_init : ByteArray := prog_2_method_1_code
def yX0_init : MethodName := ⟨RX0, "<init>", "()V"⟩
abbrev cX0_add : ByteArray := prog_2_method_2_code
def yX0_add : MethodName := ⟨RX0, "add", "(I)V"⟩
abbrev cX0_formOf : ByteArray := prog_2_method_3_code
def yX0_formOf : MethodName := ⟨RX0, "formOf", "(I)Ljava/lang/String;"⟩
abbrev cX0_fits : ByteArray := prog_2_method_4_code
def yX0_fits : MethodName := ⟨RX0, "fits", "(CI)Z"⟩
abbrev cX0_kindOf : ByteArray := prog_2_method_5_code
def yX0_kindOf : MethodName := ⟨RX0, "kindOf", "(I)I"⟩
abbrev cX0_firstWrong : ByteArray := prog_2_method_6_code
def yX0_firstWrong : MethodName := ⟨RX0, "firstWrong", "()I"⟩
abbrev cX0_letterAt : ByteArray := prog_2_method_7_code
def yX0_letterAt : MethodName := ⟨RX0, "letterAt", "(I)I"⟩
abbrev cX0_digitAt : ByteArray := prog_2_method_8_code
def yX0_digitAt : MethodName := ⟨RX0, "digitAt", "(I)I"⟩
abbrev cX0_numberAt : ByteArray := prog_2_method_9_code
def yX0_numberAt : MethodName := ⟨RX0, "numberAt", "(I)I"⟩
abbrev cX0_tell : ByteArray := prog_2_method_10_code
def yX0_tell : MethodName := ⟨RX0, "tell", "(ILLeansAgainstReason$Rack;)Z"⟩
abbrev cX0_tellDays : ByteArray := prog_2_method_11_code
def yX0_tellDays : MethodName := ⟨RX0, "tellDays", "(ILLeansAgainstReason$Rack;)Z"⟩
def RX1 : String := "LeansAgainstReason$Mind"
def TX1 : u_T := fun k => match k with
  | 0 => ("LeansAgainstReason$Mind", "now", "LLeansAgainstReason$Rack;", true)
  | 1 => ("LeansAgainstReason$Mind", "then", "LLeansAgainstReason$Rack;", true)
  | _ => ("LeansAgainstReason$Mind", "outcomes", "[I", true)
def tyX1 : Nat → FieldType := fun k => match k with
  | 0 => .object "LeansAgainstReason$Rack"
  | 1 => .object "LeansAgainstReason$Rack"
  | _ => .array .int
abbrev wsX10 : List Cond := u_ws RX1 TX1 3
theorem nmX1 : ∀ a, a < 3 → ∀ b, b < 3 → a ≠ b → (TX1 a).2.1 ≠ (TX1 b).2.1 := by decide +kernel
theorem tyX1_ok : ∀ k, k < 3 → parseFieldDescriptor (TX1 k).2.2.1 = some (tyX1 k) := by decide +kernel
abbrev cX1_init : ByteArray := prog_3_method_1_code
def yX1_init : MethodName := ⟨RX1, "<init>", "()V"⟩
abbrev cX1_hear : ByteArray := prog_3_method_2_code
def yX1_hear : MethodName := ⟨RX1, "hear", "(LLeansAgainstReason$Letters;)I"⟩
abbrev cX1_behind : ByteArray := prog_3_method_3_code
def yX1_behind : MethodName := ⟨RX1, "behind", "(I)LLeansAgainstReason$Rack;"⟩
abbrev cX1_downBehind : ByteArray := prog_3_method_4_code
def yX1_downBehind : MethodName := ⟨RX1, "downBehind", "(I)I"⟩
abbrev cX1_downFromThen : ByteArray := prog_3_method_5_code
def yX1_downFromThen : MethodName := ⟨RX1, "downFromThen", "(I)I"⟩
abbrev cX1_firstDownBehind : ByteArray := prog_3_method_6_code
def yX1_firstDownBehind : MethodName := ⟨RX1, "firstDownBehind", "()I"⟩
abbrev cX1_flatBehind : ByteArray := prog_3_method_7_code
def yX1_flatBehind : MethodName := ⟨RX1, "flatBehind", "()I"⟩
abbrev cX1_betterLean : ByteArray := prog_3_method_8_code
def yX1_betterLean : MethodName := ⟨RX1, "betterLean", "(I)I"⟩
abbrev cX1_bestOfThree : ByteArray := prog_3_method_9_code
def yX1_bestOfThree : MethodName := ⟨RX1, "bestOfThree", "(IIII)I"⟩
abbrev cX1_standingLeant : ByteArray := prog_3_method_10_code
def yX1_standingLeant : MethodName := ⟨RX1, "standingLeant", "(IIIII)I"⟩
abbrev cX1_toMend : ByteArray := prog_3_method_11_code
def yX1_toMend : MethodName := ⟨RX1, "toMend", "(I)I"⟩
abbrev cX1_toBreak : ByteArray := prog_3_method_12_code
def yX1_toBreak : MethodName := ⟨RX1, "toBreak", "(I)I"⟩
abbrev cX1_standingWith : ByteArray := prog_3_method_13_code
def yX1_standingWith : MethodName := ⟨RX1, "standingWith", "(III)I"⟩
abbrev cX1_safestPlace : ByteArray := prog_3_method_14_code
def yX1_safestPlace : MethodName := ⟨RX1, "safestPlace", "(I)I"⟩
abbrev cX1_felledFrom : ByteArray := prog_3_method_15_code
def yX1_felledFrom : MethodName := ⟨RX1, "felledFrom", "(II)I"⟩
abbrev cX1_standingRobbed : ByteArray := prog_3_method_16_code
def yX1_standingRobbed : MethodName := ⟨RX1, "standingRobbed", "(I)I"⟩
abbrev cX1_nothingToRobBehind : ByteArray := prog_3_method_17_code
def yX1_nothingToRobBehind : MethodName := ⟨RX1, "nothingToRobBehind", "()I"⟩
abbrev cX1_waysUp : ByteArray := prog_3_method_18_code
def yX1_waysUp : MethodName := ⟨RX1, "waysUp", "(III)J"⟩
abbrev cX1_isUpDraughted : ByteArray := prog_3_method_19_code
def yX1_isUpDraughted : MethodName := ⟨RX1, "isUpDraughted", "(III)Z"⟩
abbrev cX1_settled : ByteArray := prog_3_method_20_code
def yX1_settled : MethodName := ⟨RX1, "settled", "(III)I"⟩
abbrev cX1_standingPushed : ByteArray := prog_3_method_21_code
def yX1_standingPushed : MethodName := ⟨RX1, "standingPushed", "(III)I"⟩
abbrev cX1_weakensAs : ByteArray := prog_3_method_22_code
def yX1_weakensAs : MethodName := ⟨RX1, "weakensAs", "(III[II)Z"⟩
abbrev cX1_firstMisjudged : ByteArray := prog_3_method_23_code
def yX1_firstMisjudged : MethodName := ⟨RX1, "firstMisjudged", "([II)I"⟩
abbrev cX1_termsByLot : ByteArray := prog_3_method_24_code
def yX1_termsByLot : MethodName := ⟨RX1, "termsByLot", "(III)I"⟩
abbrev cX1_nextSeed : ByteArray := prog_3_method_25_code
def yX1_nextSeed : MethodName := ⟨RX1, "nextSeed", "(I)I"⟩
abbrev cX1_drawBelow : ByteArray := prog_3_method_26_code
def yX1_drawBelow : MethodName := ⟨RX1, "drawBelow", "(II)I"⟩
def RX2 : String := "LeansAgainstReason$Rack"
def TX2 : u_T := fun k => match k with
  | 0 => ("LeansAgainstReason$Rack", "purposes", "I", false)
  | 1 => ("LeansAgainstReason$Rack", "things", "I", false)
  | 2 => ("LeansAgainstReason$Rack", "day", "I", false)
  | 3 => ("LeansAgainstReason$Rack", "up", "I", false)
  | 4 => ("LeansAgainstReason$Rack", "kind", "[I", true)
  | 5 => ("LeansAgainstReason$Rack", "figure", "[I", true)
  | 6 => ("LeansAgainstReason$Rack", "strength", "[I", true)
  | 7 => ("LeansAgainstReason$Rack", "load", "[I", true)
  | 8 => ("LeansAgainstReason$Rack", "weight", "[I", true)
  | 9 => ("LeansAgainstReason$Rack", "place", "[I", true)
  | 10 => ("LeansAgainstReason$Rack", "holder", "[I", true)
  | _ => ("LeansAgainstReason$Rack", "inPlace", "[I", true)
def tyX2 : Nat → FieldType := fun k => match k with
  | 0 => .int
  | 1 => .int
  | 2 => .int
  | 3 => .int
  | 4 => .array .int
  | 5 => .array .int
  | 6 => .array .int
  | 7 => .array .int
  | 8 => .array .int
  | 9 => .array .int
  | 10 => .array .int
  | _ => .array .int
abbrev wsX20 : List Cond := u_ws RX2 TX2 12
theorem nmX2 : ∀ a, a < 12 → ∀ b, b < 12 → a ≠ b → (TX2 a).2.1 ≠ (TX2 b).2.1 := by decide +kernel
theorem tyX2_ok : ∀ k, k < 12 → parseFieldDescriptor (TX2 k).2.2.1 = some (tyX2 k) := by decide +kernel
abbrev cX2_init : ByteArray := prog_4_method_1_code
def yX2_init : MethodName := ⟨RX2, "<init>", "()V"⟩
abbrev cX2_become : ByteArray := prog_4_method_2_code
def yX2_become : MethodName := ⟨RX2, "become", "(LLeansAgainstReason$Rack;)V"⟩
abbrev cX2_isPurpose : ByteArray := prog_4_method_3_code
def yX2_isPurpose : MethodName := ⟨RX2, "isPurpose", "(I)Z"⟩
abbrev cX2_isThing : ByteArray := prog_4_method_4_code
def yX2_isThing : MethodName := ⟨RX2, "isThing", "(I)Z"⟩
abbrev cX2_isUp : ByteArray := prog_4_method_5_code
def yX2_isUp : MethodName := ⟨RX2, "isUp", "(I)Z"⟩
abbrev cX2_isFreeFor : ByteArray := prog_4_method_6_code
def yX2_isFreeFor : MethodName := ⟨RX2, "isFreeFor", "(II)Z"⟩
abbrev cX2_standing : ByteArray := prog_4_method_7_code
def yX2_standing : MethodName := ⟨RX2, "standing", "()I"⟩
abbrev cX2_spareOf : ByteArray := prog_4_method_8_code
def yX2_spareOf : MethodName := ⟨RX2, "spareOf", "(I)I"⟩
abbrev cX2_allStrength : ByteArray := prog_4_method_9_code
def yX2_allStrength : MethodName := ⟨RX2, "allStrength", "()I"⟩
abbrev cX2_allLoad : ByteArray := prog_4_method_10_code
def yX2_allLoad : MethodName := ⟨RX2, "allLoad", "()I"⟩
abbrev cX2_addPurpose : ByteArray := prog_4_method_11_code
def yX2_addPurpose : MethodName := ⟨RX2, "addPurpose", "(III)Z"⟩
abbrev cX2_addThing : ByteArray := prog_4_method_12_code
def yX2_addThing : MethodName := ⟨RX2, "addThing", "(III)Z"⟩
abbrev cX2_leanOn : ByteArray := prog_4_method_13_code
def yX2_leanOn : MethodName := ⟨RX2, "leanOn", "(II)Z"⟩
abbrev cX2_raise : ByteArray := prog_4_method_14_code
def yX2_raise : MethodName := ⟨RX2, "raise", "(I)Z"⟩
abbrev cX2_strengthen : ByteArray := prog_4_method_15_code
def yX2_strengthen : MethodName := ⟨RX2, "strengthen", "(II)Z"⟩
abbrev cX2_moveTo : ByteArray := prog_4_method_16_code
def yX2_moveTo : MethodName := ⟨RX2, "moveTo", "(II)V"⟩
abbrev cX2_weigh : ByteArray := prog_4_method_17_code
def yX2_weigh : MethodName := ⟨RX2, "weigh", "(II)V"⟩
abbrev cX2_passDays : ByteArray := prog_4_method_18_code
def yX2_passDays : MethodName := ⟨RX2, "passDays", "(I)V"⟩
abbrev cX2_passDay : ByteArray := prog_4_method_19_code
def yX2_passDay : MethodName := ⟨RX2, "passDay", "()V"⟩
abbrev cX2_heaviestOn : ByteArray := prog_4_method_20_code
def yX2_heaviestOn : MethodName := ⟨RX2, "heaviestOn", "(I)I"⟩
abbrev cX2_topple : ByteArray := prog_4_method_21_code
def yX2_topple : MethodName := ⟨RX2, "topple", "(I)I"⟩
abbrev cX2_felledBy : ByteArray := prog_4_method_22_code
def yX2_felledBy : MethodName := ⟨RX2, "felledBy", "(II)I"⟩
abbrev cX2_leastPlaced : ByteArray := prog_4_method_23_code
def yX2_leastPlaced : MethodName := ⟨RX2, "leastPlaced", "(I)I"⟩
abbrev cX2_leastPlacedWithoutSpare : ByteArray := prog_4_method_24_code
def yX2_leastPlacedWithoutSpare : MethodName := ⟨RX2, "leastPlacedWithoutSpare", "()I"⟩
abbrev cX2_worstPush : ByteArray := prog_4_method_25_code
def yX2_worstPush : MethodName := ⟨RX2, "worstPush", "()I"⟩
abbrev cX2_gapBehind : ByteArray := prog_4_method_26_code
def yX2_gapBehind : MethodName := ⟨RX2, "gapBehind", "(I)I"⟩
abbrev cX2_besideFrom : ByteArray := prog_4_method_27_code
def yX2_besideFrom : MethodName := ⟨RX2, "besideFrom", "(I)I"⟩
abbrev cX2_longestFrom : ByteArray := prog_4_method_28_code
def yX2_longestFrom : MethodName := ⟨RX2, "longestFrom", "()I"⟩
abbrev cX2_mostWithin : ByteArray := prog_4_method_29_code
def yX2_mostWithin : MethodName := ⟨RX2, "mostWithin", "(I)I"⟩
abbrev cX2_weightOf : ByteArray := prog_4_method_30_code
def yX2_weightOf : MethodName := ⟨RX2, "weightOf", "(I)I"⟩
def RX3 : String := "LeansAgainstReason$Weakening"
def TX3 : u_T := fun k => match k with
  | _ => ("", "", "", false)
def tyX3 : Nat → FieldType := fun k => match k with
  | _ => .int
abbrev wsX30 : List Cond := u_ws RX3 TX3 0
theorem nmX3 : ∀ a, a < 0 → ∀ b, b < 0 → a ≠ b → (TX3 a).2.1 ≠ (TX3 b).2.1 := by decide +kernel
theorem tyX3_ok : ∀ k, k < 0 → parseFieldDescriptor (TX3 k).2.2.1 = some (tyX3 k) := by decide +kernel
abbrev cX3_by : ByteArray := prog_5_method_2_code
def yX3_by : MethodName := ⟨RX3, "by", "(IIIII)I"⟩
abbrev cX3_ofHabit : ByteArray := prog_5_method_3_code
def yX3_ofHabit : MethodName := ⟨RX3, "ofHabit", "(II)I"⟩
def RX4 : String := "LeansAgainstReason"
def TX4 : u_T := fun k => match k with
  | 0 => ("LeansAgainstReason", "mind", "LLeansAgainstReason$Mind;", true)
  | 1 => ("LeansAgainstReason", "now", "LLeansAgainstReason$Rack;", true)
  | 2 => ("LeansAgainstReason", "letters", "LLeansAgainstReason$Letters;", true)
  | 3 => ("LeansAgainstReason", "image", "LLeansAgainstReason$Rack;", true)
  | 4 => ("LeansAgainstReason", "imageTaken", "Z", false)
  | 5 => ("LeansAgainstReason", "row", "[I", true)
  | 6 => ("LeansAgainstReason", "inRow", "I", false)
  | _ => ("LeansAgainstReason", "refusals", "[I", true)
def tyX4 : Nat → FieldType := fun k => match k with
  | 0 => .object "LeansAgainstReason$Mind"
  | 1 => .object "LeansAgainstReason$Rack"
  | 2 => .object "LeansAgainstReason$Letters"
  | 3 => .object "LeansAgainstReason$Rack"
  | 4 => .boolean
  | 5 => .array .int
  | 6 => .int
  | _ => .array .int
abbrev wsX40 : List Cond := u_ws RX4 TX4 8
theorem nmX4 : ∀ a, a < 8 → ∀ b, b < 8 → a ≠ b → (TX4 a).2.1 ≠ (TX4 b).2.1 := by decide +kernel
theorem tyX4_ok : ∀ k, k < 8 → parseFieldDescriptor (TX4 k).2.2.1 = some (tyX4 k) := by decide +kernel
abbrev cX4_init : ByteArray := prog_1_method_1_code
def yX4_init : MethodName := ⟨RX4, "<init>", "()V"⟩
abbrev cX4_letter : ByteArray := prog_1_method_2_code
def yX4_letter : MethodName := ⟨RX4, "letter", "(I)I"⟩
abbrev cX4_rack : ByteArray := prog_1_method_3_code
def yX4_rack : MethodName := ⟨RX4, "rack", "()I"⟩
abbrev cX4_purpose : ByteArray := prog_1_method_4_code
def yX4_purpose : MethodName := ⟨RX4, "purpose", "(II)I"⟩
abbrev cX4_lessNextDay : ByteArray := prog_1_method_5_code
def yX4_lessNextDay : MethodName := ⟨RX4, "lessNextDay", "(I)I"⟩
abbrev cX4_spare : ByteArray := prog_1_method_6_code
def yX4_spare : MethodName := ⟨RX4, "spare", "(I)I"⟩
abbrev cX4_thing : ByteArray := prog_1_method_7_code
def yX4_thing : MethodName := ⟨RX4, "thing", "(II)I"⟩
abbrev cX4_at : ByteArray := prog_1_method_8_code
def yX4_at : MethodName := ⟨RX4, "at", "(I)I"⟩
abbrev cX4_count : ByteArray := prog_1_method_9_code
def yX4_count : MethodName := ⟨RX4, "count", "(I)I"⟩
abbrev cX4_leans : ByteArray := prog_1_method_10_code
def yX4_leans : MethodName := ⟨RX4, "leans", "(II)I"⟩
abbrev cX4_moves : ByteArray := prog_1_method_11_code
def yX4_moves : MethodName := ⟨RX4, "moves", "(II)I"⟩
abbrev cX4_setsUp : ByteArray := prog_1_method_12_code
def yX4_setsUp : MethodName := ⟨RX4, "setsUp", "(I)I"⟩
abbrev cX4_pushes : ByteArray := prog_1_method_13_code
def yX4_pushes : MethodName := ⟨RX4, "pushes", "(I)I"⟩
abbrev cX4_strong : ByteArray := prog_1_method_14_code
def yX4_strong : MethodName := ⟨RX4, "strong", "(II)I"⟩
abbrev cX4_turn : ByteArray := prog_1_method_15_code
def yX4_turn : MethodName := ⟨RX4, "turn", "(III)I"⟩
abbrev cX4_days : ByteArray := prog_1_method_16_code
def yX4_days : MethodName := ⟨RX4, "days", "(I)I"⟩
abbrev cX4_upThen : ByteArray := prog_1_method_17_code
def yX4_upThen : MethodName := ⟨RX4, "upThen", "(II)I"⟩
abbrev cX4_allThen : ByteArray := prog_1_method_18_code
def yX4_allThen : MethodName := ⟨RX4, "allThen", "(I)I"⟩
abbrev cX4_purposeThen : ByteArray := prog_1_method_19_code
def yX4_purposeThen : MethodName := ⟨RX4, "purposeThen", "(III)I"⟩
abbrev cX4_falls : ByteArray := prog_1_method_20_code
def yX4_falls : MethodName := ⟨RX4, "falls", "(I)I"⟩
abbrev cX4_first : ByteArray := prog_1_method_21_code
def yX4_first : MethodName := ⟨RX4, "first", "(I)I"⟩
abbrev cX4_pushed : ByteArray := prog_1_method_22_code
def yX4_pushed : MethodName := ⟨RX4, "pushed", "(I)I"⟩
abbrev cX4_worst : ByteArray := prog_1_method_23_code
def yX4_worst : MethodName := ⟨RX4, "worst", "(I)I"⟩
abbrev cX4_gap : ByteArray := prog_1_method_24_code
def yX4_gap : MethodName := ⟨RX4, "gap", "(I)I"⟩
abbrev cX4_longest : ByteArray := prog_1_method_25_code
def yX4_longest : MethodName := ⟨RX4, "longest", "(I)I"⟩
abbrev cX4_bestPlace : ByteArray := prog_1_method_26_code
def yX4_bestPlace : MethodName := ⟨RX4, "bestPlace", "(II)I"⟩
abbrev cX4_lean : ByteArray := prog_1_method_27_code
def yX4_lean : MethodName := ⟨RX4, "lean", "(I)I"⟩
abbrev cX4_bestLeans : ByteArray := prog_1_method_28_code
def yX4_bestLeans : MethodName := ⟨RX4, "bestLeans", "(IIIII)I"⟩
abbrev cX4_mended : ByteArray := prog_1_method_29_code
def yX4_mended : MethodName := ⟨RX4, "mended", "(I)I"⟩
abbrev cX4_key : ByteArray := prog_1_method_30_code
def yX4_key : MethodName := ⟨RX4, "key", "(I)I"⟩
abbrev cX4_takes : ByteArray := prog_1_method_31_code
def yX4_takes : MethodName := ⟨RX4, "takes", "(II)I"⟩
abbrev cX4_balanced : ByteArray := prog_1_method_32_code
def yX4_balanced : MethodName := ⟨RX4, "balanced", "(II)I"⟩
abbrev cX4_thief : ByteArray := prog_1_method_33_code
def yX4_thief : MethodName := ⟨RX4, "thief", "(I)I"⟩
abbrev cX4_robbed : ByteArray := prog_1_method_34_code
def yX4_robbed : MethodName := ⟨RX4, "robbed", "()I"⟩
abbrev cX4_draught : ByteArray := prog_1_method_35_code
def yX4_draught : MethodName := ⟨RX4, "draught", "(IIII)J"⟩
abbrev cX4_offDraught : ByteArray := prog_1_method_36_code
def yX4_offDraught : MethodName := ⟨RX4, "offDraught", "(IIII)I"⟩
abbrev cX4_two : ByteArray := prog_1_method_37_code
def yX4_two : MethodName := ⟨RX4, "two", "(III)I"⟩
abbrev cX4_whatWas : ByteArray := prog_1_method_38_code
def yX4_whatWas : MethodName := ⟨RX4, "whatWas", "(II)I"⟩
abbrev cX4_kindsThatFit : ByteArray := prog_1_method_39_code
def yX4_kindsThatFit : MethodName := ⟨RX4, "kindsThatFit", "(I)I"⟩
abbrev cX4_figuresThatFit : ByteArray := prog_1_method_40_code
def yX4_figuresThatFit : MethodName := ⟨RX4, "figuresThatFit", "(I)I"⟩
abbrev cX4_row : ByteArray := prog_1_method_41_code
def yX4_row : MethodName := ⟨RX4, "row", "(I)I"⟩
abbrev cX4_judge : ByteArray := prog_1_method_42_code
def yX4_judge : MethodName := ⟨RX4, "judge", "()I"⟩
abbrev cX4_clear : ByteArray := prog_1_method_43_code
def yX4_clear : MethodName := ⟨RX4, "clear", "()I"⟩
abbrev cX4_lots : ByteArray := prog_1_method_44_code
def yX4_lots : MethodName := ⟨RX4, "lots", "(III)I"⟩
abbrev cX4_image : ByteArray := prog_1_method_45_code
def yX4_image : MethodName := ⟨RX4, "image", "()I"⟩
abbrev cX4_on : ByteArray := prog_1_method_46_code
def yX4_on : MethodName := ⟨RX4, "on", "()I"⟩
abbrev cX4_refuse : ByteArray := prog_1_method_47_code
def yX4_refuse : MethodName := ⟨RX4, "refuse", "(I)I"⟩
abbrev cX4_offUpThing : ByteArray := prog_1_method_48_code
def yX4_offUpThing : MethodName := ⟨RX4, "offUpThing", "(I)I"⟩
abbrev cX4_outside : ByteArray := prog_1_method_49_code
def yX4_outside : MethodName := ⟨RX4, "outside", "(III)I"⟩
abbrev cX4_isNeither : ByteArray := prog_1_method_50_code
def yX4_isNeither : MethodName := ⟨RX4, "isNeither", "(I)Z"⟩
abbrev cX4_isPlace : ByteArray := prog_1_method_51_code
def yX4_isPlace : MethodName := ⟨RX4, "isPlace", "(I)Z"⟩
abbrev cX4_has : ByteArray := prog_1_method_52_code
def yX4_has : MethodName := ⟨RX4, "has", "(II)Z"⟩
abbrev cX4_power : ByteArray := prog_1_method_53_code
def yX4_power : MethodName := ⟨RX4, "power", "(II)J"⟩
abbrev cX4_commonDivisor : ByteArray := prog_1_method_54_code
def yX4_commonDivisor : MethodName := ⟨RX4, "commonDivisor", "(JJ)J"⟩
def RX5 : String := "LeansAgainstReasonModel"
def TX5 : u_T := fun k => match k with
  | 0 => ("LeansAgainstReasonModel", "s", "[I", true)
  | 1 => ("LeansAgainstReasonModel", "m", "[I", true)
  | 2 => ("LeansAgainstReasonModel", "image", "[I", true)
  | 3 => ("LeansAgainstReasonModel", "was", "[I", true)
  | 4 => ("LeansAgainstReasonModel", "less", "[I", true)
  | 5 => ("LeansAgainstReasonModel", "hasImage", "Z", false)
  | 6 => ("LeansAgainstReasonModel", "letters", "[I", true)
  | 7 => ("LeansAgainstReasonModel", "row", "[I", true)
  | 8 => ("LeansAgainstReasonModel", "refused", "[I", true)
  | 9 => ("LeansAgainstReasonModel", "letterMany", "I", false)
  | 10 => ("LeansAgainstReasonModel", "rowMany", "I", false)
  | 11 => ("LeansAgainstReasonModel", "place", "I", false)
  | 12 => ("LeansAgainstReasonModel", "numbers", "[I", true)
  | _ => ("LeansAgainstReasonModel", "seed", "I", false)
def tyX5 : Nat → FieldType := fun k => match k with
  | 0 => .array .int
  | 1 => .array .int
  | 2 => .array .int
  | 3 => .array .int
  | 4 => .array .int
  | 5 => .boolean
  | 6 => .array .int
  | 7 => .array .int
  | 8 => .array .int
  | 9 => .int
  | 10 => .int
  | 11 => .int
  | 12 => .array .int
  | _ => .int
abbrev wsX50 : List Cond := u_ws RX5 TX5 14
theorem nmX5 : ∀ a, a < 14 → ∀ b, b < 14 → a ≠ b → (TX5 a).2.1 ≠ (TX5 b).2.1 := by decide +kernel
theorem tyX5_ok : ∀ k, k < 14 → parseFieldDescriptor (TX5 k).2.2.1 = some (tyX5 k) := by decide +kernel
abbrev cX5_init : ByteArray := prog_7_method_1_code
def yX5_init : MethodName := ⟨RX5, "<init>", "()V"⟩
abbrev cX5_isIn : ByteArray := prog_7_method_2_code
def yX5_isIn : MethodName := ⟨RX5, "isIn", "(III)Z"⟩
abbrev cX5_most : ByteArray := prog_7_method_3_code
def yX5_most : MethodName := ⟨RX5, "most", "(II)I"⟩
abbrev cX5_copies : ByteArray := prog_7_method_4_code
def yX5_copies : MethodName := ⟨RX5, "copies", "([I[I)V"⟩
abbrev cX5_no : ByteArray := prog_7_method_5_code
def yX5_no : MethodName := ⟨RX5, "no", "(I)I"⟩
abbrev cX5_noFar : ByteArray := prog_7_method_6_code
def yX5_noFar : MethodName := ⟨RX5, "noFar", "(I)I"⟩
abbrev cX5_noWide : ByteArray := prog_7_method_7_code
def yX5_noWide : MethodName := ⟨RX5, "noWide", "(I)J"⟩
abbrev cX5_ofP : ByteArray := prog_7_method_8_code
def yX5_ofP : MethodName := ⟨RX5, "ofP", "(I)I"⟩
abbrev cX5_ofT : ByteArray := prog_7_method_9_code
def yX5_ofT : MethodName := ⟨RX5, "ofT", "(I)I"⟩
abbrev cX5_isPurpose : ByteArray := prog_7_method_10_code
def yX5_isPurpose : MethodName := ⟨RX5, "isPurpose", "(I)Z"⟩
abbrev cX5_isThing : ByteArray := prog_7_method_11_code
def yX5_isThing : MethodName := ⟨RX5, "isThing", "(I)Z"⟩
abbrev cX5_isPlace : ByteArray := prog_7_method_12_code
def yX5_isPlace : MethodName := ⟨RX5, "isPlace", "(I)Z"⟩
abbrev cX5_isUp : ByteArray := prog_7_method_13_code
def yX5_isUp : MethodName := ⟨RX5, "isUp", "([II)Z"⟩
abbrev cX5_bits : ByteArray := prog_7_method_14_code
def yX5_bits : MethodName := ⟨RX5, "bits", "(I)I"⟩
abbrev cX5_loadOf : ByteArray := prog_7_method_15_code
def yX5_loadOf : MethodName := ⟨RX5, "loadOf", "([II)I"⟩
abbrev cX5_spareOf : ByteArray := prog_7_method_16_code
def yX5_spareOf : MethodName := ⟨RX5, "spareOf", "([II)I"⟩
abbrev cX5_lessBy : ByteArray := prog_7_method_17_code
def yX5_lessBy : MethodName := ⟨RX5, "lessBy", "([III)I"⟩
abbrev cX5_whoAt : ByteArray := prog_7_method_18_code
def yX5_whoAt : MethodName := ⟨RX5, "whoAt", "([II)I"⟩
abbrev cX5_fells : ByteArray := prog_7_method_19_code
def yX5_fells : MethodName := ⟨RX5, "fells", "([II)I"⟩
abbrev cX5_heaviestOn : ByteArray := prog_7_method_20_code
def yX5_heaviestOn : MethodName := ⟨RX5, "heaviestOn", "([II)I"⟩
abbrev cX5_day : ByteArray := prog_7_method_21_code
def yX5_day : MethodName := ⟨RX5, "day", "([I)V"⟩
abbrev cX5_daysOn : ByteArray := prog_7_method_22_code
def yX5_daysOn : MethodName := ⟨RX5, "daysOn", "([II)V"⟩
abbrev cX5_upSet : ByteArray := prog_7_method_23_code
def yX5_upSet : MethodName := ⟨RX5, "upSet", "([I)I"⟩
abbrev cX5_upIn : ByteArray := prog_7_method_24_code
def yX5_upIn : MethodName := ⟨RX5, "upIn", "(I)I"⟩
abbrev cX5_letter : ByteArray := prog_7_method_25_code
def yX5_letter : MethodName := ⟨RX5, "letter", "(I)I"⟩
abbrev cX5_here : ByteArray := prog_7_method_26_code
def yX5_here : MethodName := ⟨RX5, "here", "()I"⟩
abbrev cX5_readsNumber : ByteArray := prog_7_method_27_code
def yX5_readsNumber : MethodName := ⟨RX5, "readsNumber", "(II)Z"⟩
abbrev cX5_kindBy : ByteArray := prog_7_method_28_code
def yX5_kindBy : MethodName := ⟨RX5, "kindBy", "(I)I"⟩
abbrev cX5_readsKind : ByteArray := prog_7_method_29_code
def yX5_readsKind : MethodName := ⟨RX5, "readsKind", "()Z"⟩
abbrev cX5_readsStatement : ByteArray := prog_7_method_30_code
def yX5_readsStatement : MethodName := ⟨RX5, "readsStatement", "()Z"⟩
abbrev cX5_addsPurpose : ByteArray := prog_7_method_31_code
def yX5_addsPurpose : MethodName := ⟨RX5, "addsPurpose", "(III)Z"⟩
abbrev cX5_addsThing : ByteArray := prog_7_method_32_code
def yX5_addsThing : MethodName := ⟨RX5, "addsThing", "(III)Z"⟩
abbrev cX5_isDone : ByteArray := prog_7_method_33_code
def yX5_isDone : MethodName := ⟨RX5, "isDone", "(I)Z"⟩
abbrev cX5_rack : ByteArray := prog_7_method_34_code
def yX5_rack : MethodName := ⟨RX5, "rack", "()I"⟩
abbrev cX5_purpose : ByteArray := prog_7_method_35_code
def yX5_purpose : MethodName := ⟨RX5, "purpose", "(II)I"⟩
abbrev cX5_spare : ByteArray := prog_7_method_36_code
def yX5_spare : MethodName := ⟨RX5, "spare", "(I)I"⟩
abbrev cX5_thing : ByteArray := prog_7_method_37_code
def yX5_thing : MethodName := ⟨RX5, "thing", "(II)I"⟩
abbrev cX5_at : ByteArray := prog_7_method_38_code
def yX5_at : MethodName := ⟨RX5, "at", "(I)I"⟩
abbrev cX5_leans : ByteArray := prog_7_method_39_code
def yX5_leans : MethodName := ⟨RX5, "leans", "(II)I"⟩
abbrev cX5_moves : ByteArray := prog_7_method_40_code
def yX5_moves : MethodName := ⟨RX5, "moves", "(II)I"⟩
abbrev cX5_setsUp : ByteArray := prog_7_method_41_code
def yX5_setsUp : MethodName := ⟨RX5, "setsUp", "(I)I"⟩
abbrev cX5_wrongUp : ByteArray := prog_7_method_42_code
def yX5_wrongUp : MethodName := ⟨RX5, "wrongUp", "(I)I"⟩
abbrev cX5_pushes : ByteArray := prog_7_method_43_code
def yX5_pushes : MethodName := ⟨RX5, "pushes", "(I)I"⟩
abbrev cX5_wrongBy : ByteArray := prog_7_method_44_code
def yX5_wrongBy : MethodName := ⟨RX5, "wrongBy", "(II)I"⟩
abbrev cX5_strong : ByteArray := prog_7_method_45_code
def yX5_strong : MethodName := ⟨RX5, "strong", "(II)I"⟩
abbrev cX5_turn : ByteArray := prog_7_method_46_code
def yX5_turn : MethodName := ⟨RX5, "turn", "(III)I"⟩
abbrev cX5_days : ByteArray := prog_7_method_47_code
def yX5_days : MethodName := ⟨RX5, "days", "(I)I"⟩
abbrev cX5_takesOn : ByteArray := prog_7_method_48_code
def yX5_takesOn : MethodName := ⟨RX5, "takesOn", "(I)V"⟩
abbrev cX5_upThen : ByteArray := prog_7_method_49_code
def yX5_upThen : MethodName := ⟨RX5, "upThen", "(II)I"⟩
abbrev cX5_allThen : ByteArray := prog_7_method_50_code
def yX5_allThen : MethodName := ⟨RX5, "allThen", "(I)I"⟩
abbrev cX5_purposeThen : ByteArray := prog_7_method_51_code
def yX5_purposeThen : MethodName := ⟨RX5, "purposeThen", "(III)I"⟩
abbrev cX5_downIn : ByteArray := prog_7_method_52_code
def yX5_downIn : MethodName := ⟨RX5, "downIn", "(IZ)I"⟩
abbrev cX5_fallsOf : ByteArray := prog_7_method_53_code
def yX5_fallsOf : MethodName := ⟨RX5, "fallsOf", "(I)I"⟩
abbrev cX5_falls : ByteArray := prog_7_method_54_code
def yX5_falls : MethodName := ⟨RX5, "falls", "(I)I"⟩
abbrev cX5_first : ByteArray := prog_7_method_55_code
def yX5_first : MethodName := ⟨RX5, "first", "(I)I"⟩
abbrev cX5_pushedBy : ByteArray := prog_7_method_56_code
def yX5_pushedBy : MethodName := ⟨RX5, "pushedBy", "(I)I"⟩
abbrev cX5_pushed : ByteArray := prog_7_method_57_code
def yX5_pushed : MethodName := ⟨RX5, "pushed", "(I)I"⟩
abbrev cX5_worst : ByteArray := prog_7_method_58_code
def yX5_worst : MethodName := ⟨RX5, "worst", "(I)I"⟩
abbrev cX5_gap : ByteArray := prog_7_method_59_code
def yX5_gap : MethodName := ⟨RX5, "gap", "(I)I"⟩
abbrev cX5_longest : ByteArray := prog_7_method_60_code
def yX5_longest : MethodName := ⟨RX5, "longest", "(I)I"⟩
abbrev cX5_orNever : ByteArray := prog_7_method_61_code
def yX5_orNever : MethodName := ⟨RX5, "orNever", "(I)I"⟩
abbrev cX5_lean : ByteArray := prog_7_method_62_code
def yX5_lean : MethodName := ⟨RX5, "lean", "(I)I"⟩
abbrev cX5_bestLeans : ByteArray := prog_7_method_63_code
def yX5_bestLeans : MethodName := ⟨RX5, "bestLeans", "(IIIII)I"⟩
abbrev cX5_upWith : ByteArray := prog_7_method_64_code
def yX5_upWith : MethodName := ⟨RX5, "upWith", "(III)I"⟩
abbrev cX5_mended : ByteArray := prog_7_method_65_code
def yX5_mended : MethodName := ⟨RX5, "mended", "(I)I"⟩
abbrev cX5_key : ByteArray := prog_7_method_66_code
def yX5_key : MethodName := ⟨RX5, "key", "(I)I"⟩
abbrev cX5_takes : ByteArray := prog_7_method_67_code
def yX5_takes : MethodName := ⟨RX5, "takes", "(II)I"⟩
abbrev cX5_weightOf : ByteArray := prog_7_method_68_code
def yX5_weightOf : MethodName := ⟨RX5, "weightOf", "(I)I"⟩
abbrev cX5_balanced : ByteArray := prog_7_method_69_code
def yX5_balanced : MethodName := ⟨RX5, "balanced", "(II)I"⟩
abbrev cX5_leastToPush : ByteArray := prog_7_method_70_code
def yX5_leastToPush : MethodName := ⟨RX5, "leastToPush", "([IZ)I"⟩
abbrev cX5_pushesLeast : ByteArray := prog_7_method_71_code
def yX5_pushesLeast : MethodName := ⟨RX5, "pushesLeast", "(Z)V"⟩
abbrev cX5_thief : ByteArray := prog_7_method_72_code
def yX5_thief : MethodName := ⟨RX5, "thief", "(I)I"⟩
abbrev cX5_robbed : ByteArray := prog_7_method_73_code
def yX5_robbed : MethodName := ⟨RX5, "robbed", "()I"⟩
abbrev cX5_bestPlace : ByteArray := prog_7_method_74_code
def yX5_bestPlace : MethodName := ⟨RX5, "bestPlace", "(II)I"⟩
abbrev cX5_gcd : ByteArray := prog_7_method_75_code
def yX5_gcd : MethodName := ⟨RX5, "gcd", "(JJ)J"⟩
abbrev cX5_partOf : ByteArray := prog_7_method_76_code
def yX5_partOf : MethodName := ⟨RX5, "partOf", "(JJI)J"⟩
abbrev cX5_draught : ByteArray := prog_7_method_77_code
def yX5_draught : MethodName := ⟨RX5, "draught", "(IIII)J"⟩
abbrev cX5_upPushed : ByteArray := prog_7_method_78_code
def yX5_upPushed : MethodName := ⟨RX5, "upPushed", "(IIIII)I"⟩
abbrev cX5_two : ByteArray := prog_7_method_79_code
def yX5_two : MethodName := ⟨RX5, "two", "(III)I"⟩
abbrev cX5_whatWas : ByteArray := prog_7_method_80_code
def yX5_whatWas : MethodName := ⟨RX5, "whatWas", "(II)I"⟩
abbrev cX5_row : ByteArray := prog_7_method_81_code
def yX5_row : MethodName := ⟨RX5, "row", "(I)I"⟩
abbrev cX5_judge : ByteArray := prog_7_method_82_code
def yX5_judge : MethodName := ⟨RX5, "judge", "()I"⟩
abbrev cX5_clear : ByteArray := prog_7_method_83_code
def yX5_clear : MethodName := ⟨RX5, "clear", "()I"⟩
abbrev cX5_drawn : ByteArray := prog_7_method_84_code
def yX5_drawn : MethodName := ⟨RX5, "drawn", "(I)I"⟩
abbrev cX5_strengthAll : ByteArray := prog_7_method_85_code
def yX5_strengthAll : MethodName := ⟨RX5, "strengthAll", "([I)I"⟩
abbrev cX5_lots : ByteArray := prog_7_method_86_code
def yX5_lots : MethodName := ⟨RX5, "lots", "(III)I"⟩
abbrev cX5_image : ByteArray := prog_7_method_87_code
def yX5_image : MethodName := ⟨RX5, "image", "()I"⟩
abbrev cX5_on : ByteArray := prog_7_method_88_code
def yX5_on : MethodName := ⟨RX5, "on", "()I"⟩
abbrev cX5_count : ByteArray := prog_7_method_89_code
def yX5_count : MethodName := ⟨RX5, "count", "(I)I"⟩
def RJx145de : String := "java/io/Serializable"
def TJx145de : u_T := fun k => match k with
  | _ => ("", "", "", false)
def tyJx145de : Nat → FieldType := fun k => match k with
  | _ => .int
abbrev wsJx145de0 : List Cond := u_ws RJx145de TJx145de 0
theorem nmJx145de : ∀ a, a < 0 → ∀ b, b < 0 → a ≠ b → (TJx145de a).2.1 ≠ (TJx145de b).2.1 := by decide +kernel
theorem tyJx145de_ok : ∀ k, k < 0 → parseFieldDescriptor (TJx145de k).2.2.1 = some (tyJx145de k) := by decide +kernel
def RJx9f9b0 : String := "java/lang/CharSequence"
def TJx9f9b0 : u_T := fun k => match k with
  | _ => ("", "", "", false)
def tyJx9f9b0 : Nat → FieldType := fun k => match k with
  | _ => .int
abbrev wsJx9f9b00 : List Cond := u_ws RJx9f9b0 TJx9f9b0 0
theorem nmJx9f9b0 : ∀ a, a < 0 → ∀ b, b < 0 → a ≠ b → (TJx9f9b0 a).2.1 ≠ (TJx9f9b0 b).2.1 := by decide +kernel
theorem tyJx9f9b0_ok : ∀ k, k < 0 → parseFieldDescriptor (TJx9f9b0 k).2.2.1 = some (tyJx9f9b0 k) := by decide +kernel
def RJ11 : String := "java/lang/Character"
def TJ11 : u_T := fun k => match k with
  | _ => ("", "", "", false)
def tyJ11 : Nat → FieldType := fun k => match k with
  | _ => .int
abbrev wsJ110 : List Cond := u_ws RJ11 TJ11 0
theorem nmJ11 : ∀ a, a < 0 → ∀ b, b < 0 → a ≠ b → (TJ11 a).2.1 ≠ (TJ11 b).2.1 := by decide +kernel
theorem tyJ11_ok : ∀ k, k < 0 → parseFieldDescriptor (TJ11 k).2.2.1 = some (tyJ11 k) := by decide +kernel
abbrev cJ11_isValidCodePoint_9a6ad : ByteArray := prog_8_method_11_code
def yJ11_isValidCodePoint_9a6ad : MethodName := ⟨RJ11, "isValidCodePoint", "(I)Z"⟩
abbrev cJ11_highSurrogate_5068e : ByteArray := prog_8_method_28_code
def yJ11_highSurrogate_5068e : MethodName := ⟨RJ11, "highSurrogate", "(I)C"⟩
abbrev cJ11_lowSurrogate_5068e : ByteArray := prog_8_method_29_code
def yJ11_lowSurrogate_5068e : MethodName := ⟨RJ11, "lowSurrogate", "(I)C"⟩
def RJxb160c : String := "java/lang/Comparable"
def TJxb160c : u_T := fun k => match k with
  | _ => ("", "", "", false)
def tyJxb160c : Nat → FieldType := fun k => match k with
  | _ => .int
abbrev wsJxb160c0 : List Cond := u_ws RJxb160c TJxb160c 0
theorem nmJxb160c : ∀ a, a < 0 → ∀ b, b < 0 → a ≠ b → (TJxb160c a).2.1 ≠ (TJxb160c b).2.1 := by decide +kernel
theorem tyJxb160c_ok : ∀ k, k < 0 → parseFieldDescriptor (TJxb160c k).2.2.1 = some (tyJxb160c k) := by decide +kernel
def RJ6 : String := "java/lang/Integer"
def TJ6 : u_T := fun k => match k with
  | _ => ("", "", "", false)
def tyJ6 : Nat → FieldType := fun k => match k with
  | _ => .int
abbrev wsJ60 : List Cond := u_ws RJ6 TJ6 0
theorem nmJ6 : ∀ a, a < 0 → ∀ b, b < 0 → a ≠ b → (TJ6 a).2.1 ≠ (TJ6 b).2.1 := by decide +kernel
theorem tyJ6_ok : ∀ k, k < 0 → parseFieldDescriptor (TJ6 k).2.2.1 = some (tyJ6 k) := by decide +kernel
abbrev cJ6_bitCount_0f7a4 : ByteArray := prog_9_method_49_code
def yJ6_bitCount_0f7a4 : MethodName := ⟨RJ6, "bitCount", "(I)I"⟩
def RJ9 : String := "java/lang/Math"
def TJ9 : u_T := fun k => match k with
  | _ => ("", "", "", false)
def tyJ9 : Nat → FieldType := fun k => match k with
  | _ => .int
abbrev wsJ90 : List Cond := u_ws RJ9 TJ9 0
theorem nmJ9 : ∀ a, a < 0 → ∀ b, b < 0 → a ≠ b → (TJ9 a).2.1 ≠ (TJ9 b).2.1 := by decide +kernel
theorem tyJ9_ok : ∀ k, k < 0 → parseFieldDescriptor (TJ9 k).2.2.1 = some (tyJ9 k) := by decide +kernel
abbrev cJ9_max_7cf53 : ByteArray := prog_10_method_65_code
def yJ9_max_7cf53 : MethodName := ⟨RJ9, "max", "(II)I"⟩
abbrev cJ9_min_7cf53 : ByteArray := prog_10_method_69_code
def yJ9_min_7cf53 : MethodName := ⟨RJ9, "min", "(II)I"⟩
def RJ0 : String := "java/lang/String"
def TJ0 : u_T := fun k => match k with
  | _ => ("", "", "", false)
def tyJ0 : Nat → FieldType := fun k => match k with
  | _ => .int
abbrev wsJ00 : List Cond := u_ws RJ0 TJ0 0
theorem nmJ0 : ∀ a, a < 0 → ∀ b, b < 0 → a ≠ b → (TJ0 a).2.1 ≠ (TJ0 b).2.1 := by decide +kernel
theorem tyJ0_ok : ∀ k, k < 0 → parseFieldDescriptor (TJ0 k).2.2.1 = some (tyJ0 k) := by decide +kernel
abbrev cJ0_length_8abf5 : ByteArray := prog_11_method_54_code
def yJ0_length_8abf5 : MethodName := ⟨RJ0, "length", "()I"⟩
abbrev cJ0_charAt_5068e : ByteArray := prog_11_method_56_code
def yJ0_charAt_5068e : MethodName := ⟨RJ0, "charAt", "(I)C"⟩
abbrev cJ0_indexOf_0f7a4 : ByteArray := prog_11_method_79_code
def yJ0_indexOf_0f7a4 : MethodName := ⟨RJ0, "indexOf", "(I)I"⟩
abbrev cJ0_indexOf_7cf53 : ByteArray := prog_11_method_80_code
def yJ0_indexOf_7cf53 : MethodName := ⟨RJ0, "indexOf", "(II)I"⟩
abbrev cJ0_coder_7d493 : ByteArray := prog_11_method_152_code
def yJ0_coder_7d493 : MethodName := ⟨RJ0, "coder", "()B"⟩
abbrev cJ0_isLatin1_aae02 : ByteArray := prog_11_method_154_code
def yJ0_isLatin1_aae02 : MethodName := ⟨RJ0, "isLatin1", "()Z"⟩
abbrev cJ0_checkIndex_df160 : ByteArray := prog_11_method_155_code
def yJ0_checkIndex_df160 : MethodName := ⟨RJ0, "checkIndex", "(II)V"⟩
abbrev cJ0_checkBoundsBeginEnd_23922 : ByteArray := prog_11_method_158_code
def yJ0_checkBoundsBeginEnd_23922 : MethodName := ⟨RJ0, "checkBoundsBeginEnd", "(III)V"⟩
def RJ1 : String := "java/lang/StringLatin1"
def TJ1 : u_T := fun k => match k with
  | _ => ("", "", "", false)
def tyJ1 : Nat → FieldType := fun k => match k with
  | _ => .int
abbrev wsJ10 : List Cond := u_ws RJ1 TJ1 0
theorem nmJ1 : ∀ a, a < 0 → ∀ b, b < 0 → a ≠ b → (TJ1 a).2.1 ≠ (TJ1 b).2.1 := by decide +kernel
theorem tyJ1_ok : ∀ k, k < 0 → parseFieldDescriptor (TJ1 k).2.2.1 = some (tyJ1 k) := by decide +kernel
abbrev cJ1_charAt_3b067 : ByteArray := prog_12_method_2_code
def yJ1_charAt_3b067 : MethodName := ⟨RJ1, "charAt", "([BI)C"⟩
abbrev cJ1_canEncode_9a6ad : ByteArray := prog_12_method_4_code
def yJ1_canEncode_9a6ad : MethodName := ⟨RJ1, "canEncode", "(I)Z"⟩
abbrev cJ1_indexOf_4cfef : ByteArray := prog_12_method_22_code
def yJ1_indexOf_4cfef : MethodName := ⟨RJ1, "indexOf", "([BIII)I"⟩
abbrev cJ1_indexOfChar_4cfef : ByteArray := prog_12_method_23_code
def yJ1_indexOfChar_4cfef : MethodName := ⟨RJ1, "indexOfChar", "([BIII)I"⟩
def RJ2 : String := "java/lang/StringUTF16"
def TJ2 : u_T := fun k => match k with
  | _ => ("", "", "", false)
def tyJ2 : Nat → FieldType := fun k => match k with
  | _ => .int
abbrev wsJ20 : List Cond := u_ws RJ2 TJ2 0
theorem nmJ2 : ∀ a, a < 0 → ∀ b, b < 0 → a ≠ b → (TJ2 a).2.1 ≠ (TJ2 b).2.1 := by decide +kernel
theorem tyJ2_ok : ∀ k, k < 0 → parseFieldDescriptor (TJ2 k).2.2.1 = some (tyJ2 k) := by decide +kernel
abbrev cJ2_getChar_3b067 : ByteArray := prog_13_method_5_code
def yJ2_getChar_3b067 : MethodName := ⟨RJ2, "getChar", "([BI)C"⟩
abbrev cJ2_length_9d52b : ByteArray := prog_13_method_6_code
def yJ2_length_9d52b : MethodName := ⟨RJ2, "length", "([B)I"⟩
abbrev cJ2_indexOf_4cfef : ByteArray := prog_13_method_40_code
def yJ2_indexOf_4cfef : MethodName := ⟨RJ2, "indexOf", "([BIII)I"⟩
abbrev cJ2_indexOfChar_4cfef : ByteArray := prog_13_method_47_code
def yJ2_indexOfChar_4cfef : MethodName := ⟨RJ2, "indexOfChar", "([BIII)I"⟩
abbrev cJ2_indexOfCharUnsafe_4cfef : ByteArray := prog_13_method_48_code
def yJ2_indexOfCharUnsafe_4cfef : MethodName := ⟨RJ2, "indexOfCharUnsafe", "([BIII)I"⟩
abbrev cJ2_indexOfSupplementary_4cfef : ByteArray := prog_13_method_49_code
def yJ2_indexOfSupplementary_4cfef : MethodName := ⟨RJ2, "indexOfSupplementary", "([BIII)I"⟩
abbrev cJ2_charAt_3b067 : ByteArray := prog_13_method_83_code
def yJ2_charAt_3b067 : MethodName := ⟨RJ2, "charAt", "([BI)C"⟩
abbrev cJ2_checkIndex_2214a : ByteArray := prog_13_method_91_code
def yJ2_checkIndex_2214a : MethodName := ⟨RJ2, "checkIndex", "(I[B)V"⟩
abbrev cJ2_checkBoundsBeginEnd_d044e : ByteArray := prog_13_method_93_code
def yJ2_checkBoundsBeginEnd_d044e : MethodName := ⟨RJ2, "checkBoundsBeginEnd", "(II[B)V"⟩
def RJ10 : String := "java/lang/System"
def TJ10 : u_T := fun k => match k with
  | _ => ("", "", "", false)
def tyJ10 : Nat → FieldType := fun k => match k with
  | _ => .int
abbrev wsJ100 : List Cond := u_ws RJ10 TJ10 0
theorem nmJ10 : ∀ a, a < 0 → ∀ b, b < 0 → a ≠ b → (TJ10 a).2.1 ≠ (TJ10 b).2.1 := by decide +kernel
theorem tyJ10_ok : ∀ k, k < 0 → parseFieldDescriptor (TJ10 k).2.2.1 = some (tyJ10 k) := by decide +kernel
def RJxfd54e : String := "java/lang/constant/Constable"
def TJxfd54e : u_T := fun k => match k with
  | _ => ("", "", "", false)
def tyJxfd54e : Nat → FieldType := fun k => match k with
  | _ => .int
abbrev wsJxfd54e0 : List Cond := u_ws RJxfd54e TJxfd54e 0
theorem nmJxfd54e : ∀ a, a < 0 → ∀ b, b < 0 → a ≠ b → (TJxfd54e a).2.1 ≠ (TJxfd54e b).2.1 := by decide +kernel
theorem tyJxfd54e_ok : ∀ k, k < 0 → parseFieldDescriptor (TJxfd54e k).2.2.1 = some (tyJxfd54e k) := by decide +kernel
def RJx3cf43 : String := "java/lang/constant/ConstantDesc"
def TJx3cf43 : u_T := fun k => match k with
  | _ => ("", "", "", false)
def tyJx3cf43 : Nat → FieldType := fun k => match k with
  | _ => .int
abbrev wsJx3cf430 : List Cond := u_ws RJx3cf43 TJx3cf43 0
theorem nmJx3cf43 : ∀ a, a < 0 → ∀ b, b < 0 → a ≠ b → (TJx3cf43 a).2.1 ≠ (TJx3cf43 b).2.1 := by decide +kernel
theorem tyJx3cf43_ok : ∀ k, k < 0 → parseFieldDescriptor (TJx3cf43 k).2.2.1 = some (tyJx3cf43 k) := by decide +kernel
def RJ7 : String := "java/util/Arrays"
def TJ7 : u_T := fun k => match k with
  | _ => ("", "", "", false)
def tyJ7 : Nat → FieldType := fun k => match k with
  | _ => .int
abbrev wsJ70 : List Cond := u_ws RJ7 TJ7 0
theorem nmJ7 : ∀ a, a < 0 → ∀ b, b < 0 → a ≠ b → (TJ7 a).2.1 ≠ (TJ7 b).2.1 := by decide +kernel
theorem tyJ7_ok : ∀ k, k < 0 → parseFieldDescriptor (TJ7 k).2.2.1 = some (tyJ7 k) := by decide +kernel
abbrev cJ7_fill_53178 : ByteArray := prog_15_method_103_code
def yJ7_fill_53178 : MethodName := ⟨RJ7, "fill", "([II)V"⟩
def RJ3 : String := "jdk/internal/util/Preconditions"
def TJ3 : u_T := fun k => match k with
  | _ => ("", "", "", false)
def tyJ3 : Nat → FieldType := fun k => match k with
  | _ => .int
abbrev wsJ30 : List Cond := u_ws RJ3 TJ3 0
theorem nmJ3 : ∀ a, a < 0 → ∀ b, b < 0 → a ≠ b → (TJ3 a).2.1 ≠ (TJ3 b).2.1 := by decide +kernel
theorem tyJ3_ok : ∀ k, k < 0 → parseFieldDescriptor (TJ3 k).2.2.1 = some (tyJ3 k) := by decide +kernel
abbrev cJ3_checkIndex_8e157 : ByteArray := prog_16_method_11_code
def yJ3_checkIndex_8e157 : MethodName := ⟨RJ3, "checkIndex", "(IILjava/util/function/BiFunction;)I"⟩
abbrev cJ3_checkFromToIndex_8c36e : ByteArray := prog_16_method_12_code
def yJ3_checkFromToIndex_8c36e : MethodName := ⟨RJ3, "checkFromToIndex", "(IIILjava/util/function/BiFunction;)I"⟩
def RL : String := "LeansAgainstReasonLaw"
abbrev cL_law : ByteArray := code
def yL_law : MethodName := ⟨RL, "law", "([I)Z"⟩
theorem dX0_init_0 : decode cX0_init 0 = .ok (.aload_n 0, 1) := by decide +kernel
theorem dX0_init_1 : decode cX0_init 1 = .ok (.invokespecial 3, 3) := by decide +kernel
theorem dX0_init_4 : decode cX0_init 4 = .ok (.aload_n 0, 1) := by decide +kernel
theorem dX0_init_5 : decode cX0_init 5 = .ok (.bipush 96, 2) := by decide +kernel
theorem dX0_init_7 : decode cX0_init 7 = .ok (.newarray .int, 2) := by decide +kernel
theorem dX0_init_9 : decode cX0_init 9 = .ok (.putfield 9, 3) := by decide +kernel
theorem dX0_init_12 : decode cX0_init 12 = .ok (.return_, 1) := by decide +kernel
theorem dX1_init_0 : decode cX1_init 0 = .ok (.aload_n 0, 1) := by decide +kernel
theorem dX1_init_1 : decode cX1_init 1 = .ok (.invokespecial 3, 3) := by decide +kernel
theorem dX1_init_4 : decode cX1_init 4 = .ok (.aload_n 0, 1) := by decide +kernel
theorem dX1_init_5 : decode cX1_init 5 = .ok (.new 9, 3) := by decide +kernel
theorem dX1_init_8 : decode cX1_init 8 = .ok (.dup, 1) := by decide +kernel
theorem dX1_init_9 : decode cX1_init 9 = .ok (.invokespecial 11, 3) := by decide +kernel
theorem dX1_init_12 : decode cX1_init 12 = .ok (.putfield 12, 3) := by decide +kernel
theorem dX1_init_15 : decode cX1_init 15 = .ok (.aload_n 0, 1) := by decide +kernel
theorem dX1_init_16 : decode cX1_init 16 = .ok (.new 9, 3) := by decide +kernel
theorem dX1_init_19 : decode cX1_init 19 = .ok (.dup, 1) := by decide +kernel
theorem dX1_init_20 : decode cX1_init 20 = .ok (.invokespecial 11, 3) := by decide +kernel
theorem dX1_init_23 : decode cX1_init 23 = .ok (.putfield 18, 3) := by decide +kernel
theorem dX1_init_26 : decode cX1_init 26 = .ok (.aload_n 0, 1) := by decide +kernel
theorem dX1_init_27 : decode cX1_init 27 = .ok (.iconst 4, 1) := by decide +kernel
theorem dX1_init_28 : decode cX1_init 28 = .ok (.newarray .int, 2) := by decide +kernel
theorem dX1_init_30 : decode cX1_init 30 = .ok (.putfield 21, 3) := by decide +kernel
theorem dX1_init_33 : decode cX1_init 33 = .ok (.return_, 1) := by decide +kernel
theorem dX2_init_0 : decode cX2_init 0 = .ok (.aload_n 0, 1) := by decide +kernel
theorem dX2_init_1 : decode cX2_init 1 = .ok (.invokespecial 3, 3) := by decide +kernel
theorem dX2_init_4 : decode cX2_init 4 = .ok (.aload_n 0, 1) := by decide +kernel
theorem dX2_init_5 : decode cX2_init 5 = .ok (.iconst 5, 1) := by decide +kernel
theorem dX2_init_6 : decode cX2_init 6 = .ok (.newarray .int, 2) := by decide +kernel
theorem dX2_init_8 : decode cX2_init 8 = .ok (.putfield 9, 3) := by decide +kernel
theorem dX2_init_11 : decode cX2_init 11 = .ok (.aload_n 0, 1) := by decide +kernel
theorem dX2_init_12 : decode cX2_init 12 = .ok (.iconst 5, 1) := by decide +kernel
theorem dX2_init_13 : decode cX2_init 13 = .ok (.newarray .int, 2) := by decide +kernel
theorem dX2_init_15 : decode cX2_init 15 = .ok (.putfield 15, 3) := by decide +kernel
theorem dX2_init_18 : decode cX2_init 18 = .ok (.aload_n 0, 1) := by decide +kernel
theorem dX2_init_19 : decode cX2_init 19 = .ok (.iconst 5, 1) := by decide +kernel
theorem dX2_init_20 : decode cX2_init 20 = .ok (.newarray .int, 2) := by decide +kernel
theorem dX2_init_22 : decode cX2_init 22 = .ok (.putfield 18, 3) := by decide +kernel
theorem dX2_init_25 : decode cX2_init 25 = .ok (.aload_n 0, 1) := by decide +kernel
theorem dX2_init_26 : decode cX2_init 26 = .ok (.iconst 5, 1) := by decide +kernel
theorem dX2_init_27 : decode cX2_init 27 = .ok (.newarray .int, 2) := by decide +kernel
theorem dX2_init_29 : decode cX2_init 29 = .ok (.putfield 21, 3) := by decide +kernel
theorem dX2_init_32 : decode cX2_init 32 = .ok (.aload_n 0, 1) := by decide +kernel
theorem dX2_init_33 : decode cX2_init 33 = .ok (.bipush 10, 2) := by decide +kernel
theorem dX2_init_35 : decode cX2_init 35 = .ok (.newarray .int, 2) := by decide +kernel
theorem dX2_init_37 : decode cX2_init 37 = .ok (.putfield 24, 3) := by decide +kernel
theorem dX2_init_40 : decode cX2_init 40 = .ok (.aload_n 0, 1) := by decide +kernel
theorem dX2_init_41 : decode cX2_init 41 = .ok (.bipush 10, 2) := by decide +kernel
theorem dX2_init_43 : decode cX2_init 43 = .ok (.newarray .int, 2) := by decide +kernel
theorem dX2_init_45 : decode cX2_init 45 = .ok (.putfield 27, 3) := by decide +kernel
theorem dX2_init_48 : decode cX2_init 48 = .ok (.aload_n 0, 1) := by decide +kernel
theorem dX2_init_49 : decode cX2_init 49 = .ok (.bipush 10, 2) := by decide +kernel
theorem dX2_init_51 : decode cX2_init 51 = .ok (.newarray .int, 2) := by decide +kernel
theorem dX2_init_53 : decode cX2_init 53 = .ok (.putfield 30, 3) := by decide +kernel
theorem dX2_init_56 : decode cX2_init 56 = .ok (.aload_n 0, 1) := by decide +kernel
theorem dX2_init_57 : decode cX2_init 57 = .ok (.bipush 20, 2) := by decide +kernel
theorem dX2_init_59 : decode cX2_init 59 = .ok (.newarray .int, 2) := by decide +kernel
theorem dX2_init_61 : decode cX2_init 61 = .ok (.putfield 33, 3) := by decide +kernel
theorem dX2_init_64 : decode cX2_init 64 = .ok (.aload_n 0, 1) := by decide +kernel
theorem dX2_init_65 : decode cX2_init 65 = .ok (.getfield 33, 3) := by decide +kernel
theorem dX2_init_68 : decode cX2_init 68 = .ok (.bipush (-9), 2) := by decide +kernel
theorem dX2_init_70 : decode cX2_init 70 = .ok (.invokestatic 36, 3) := by decide +kernel
theorem dX2_init_73 : decode cX2_init 73 = .ok (.return_, 1) := by decide +kernel
theorem dX4_init_0 : decode cX4_init 0 = .ok (.aload_n 0, 1) := by decide +kernel
theorem dX4_init_1 : decode cX4_init 1 = .ok (.invokespecial 1, 3) := by decide +kernel
theorem dX4_init_4 : decode cX4_init 4 = .ok (.aload_n 0, 1) := by decide +kernel
theorem dX4_init_5 : decode cX4_init 5 = .ok (.new 7, 3) := by decide +kernel
theorem dX4_init_8 : decode cX4_init 8 = .ok (.dup, 1) := by decide +kernel
theorem dX4_init_9 : decode cX4_init 9 = .ok (.invokespecial 9, 3) := by decide +kernel
theorem dX4_init_12 : decode cX4_init 12 = .ok (.putfield 10, 3) := by decide +kernel
theorem dX4_init_15 : decode cX4_init 15 = .ok (.aload_n 0, 1) := by decide +kernel
theorem dX4_init_16 : decode cX4_init 16 = .ok (.aload_n 0, 1) := by decide +kernel
theorem dX4_init_17 : decode cX4_init 17 = .ok (.getfield 10, 3) := by decide +kernel
theorem dX4_init_20 : decode cX4_init 20 = .ok (.getfield 16, 3) := by decide +kernel
theorem dX4_init_23 : decode cX4_init 23 = .ok (.putfield 20, 3) := by decide +kernel
theorem dX4_init_26 : decode cX4_init 26 = .ok (.aload_n 0, 1) := by decide +kernel
theorem dX4_init_27 : decode cX4_init 27 = .ok (.new 21, 3) := by decide +kernel
theorem dX4_init_30 : decode cX4_init 30 = .ok (.dup, 1) := by decide +kernel
theorem dX4_init_31 : decode cX4_init 31 = .ok (.invokespecial 23, 3) := by decide +kernel
theorem dX4_init_34 : decode cX4_init 34 = .ok (.putfield 24, 3) := by decide +kernel
theorem dX4_init_37 : decode cX4_init 37 = .ok (.aload_n 0, 1) := by decide +kernel
theorem dX4_init_38 : decode cX4_init 38 = .ok (.new 28, 3) := by decide +kernel
theorem dX4_init_41 : decode cX4_init 41 = .ok (.dup, 1) := by decide +kernel
theorem dX4_init_42 : decode cX4_init 42 = .ok (.invokespecial 30, 3) := by decide +kernel
theorem dX4_init_45 : decode cX4_init 45 = .ok (.putfield 31, 3) := by decide +kernel
theorem dX4_init_48 : decode cX4_init 48 = .ok (.aload_n 0, 1) := by decide +kernel
theorem dX4_init_49 : decode cX4_init 49 = .ok (.iconst 0, 1) := by decide +kernel
theorem dX4_init_50 : decode cX4_init 50 = .ok (.putfield 34, 3) := by decide +kernel
theorem dX4_init_53 : decode cX4_init 53 = .ok (.aload_n 0, 1) := by decide +kernel
theorem dX4_init_54 : decode cX4_init 54 = .ok (.bipush 16, 2) := by decide +kernel
theorem dX4_init_56 : decode cX4_init 56 = .ok (.newarray .int, 2) := by decide +kernel
theorem dX4_init_58 : decode cX4_init 58 = .ok (.putfield 38, 3) := by decide +kernel
theorem dX4_init_61 : decode cX4_init 61 = .ok (.aload_n 0, 1) := by decide +kernel
theorem dX4_init_62 : decode cX4_init 62 = .ok (.iconst 0, 1) := by decide +kernel
theorem dX4_init_63 : decode cX4_init 63 = .ok (.putfield 42, 3) := by decide +kernel
theorem dX4_init_66 : decode cX4_init 66 = .ok (.aload_n 0, 1) := by decide +kernel
theorem dX4_init_67 : decode cX4_init 67 = .ok (.bipush 7, 2) := by decide +kernel
theorem dX4_init_69 : decode cX4_init 69 = .ok (.newarray .int, 2) := by decide +kernel
theorem dX4_init_71 : decode cX4_init 71 = .ok (.putfield 46, 3) := by decide +kernel
theorem dX4_init_74 : decode cX4_init 74 = .ok (.return_, 1) := by decide +kernel
theorem dX5_init_0 : decode cX5_init 0 = .ok (.aload_n 0, 1) := by decide +kernel
theorem dX5_init_1 : decode cX5_init 1 = .ok (.invokespecial 1, 3) := by decide +kernel
theorem dX5_init_4 : decode cX5_init 4 = .ok (.aload_n 0, 1) := by decide +kernel
theorem dX5_init_5 : decode cX5_init 5 = .ok (.bipush 58, 2) := by decide +kernel
theorem dX5_init_7 : decode cX5_init 7 = .ok (.newarray .int, 2) := by decide +kernel
theorem dX5_init_9 : decode cX5_init 9 = .ok (.putfield 9, 3) := by decide +kernel
theorem dX5_init_12 : decode cX5_init 12 = .ok (.aload_n 0, 1) := by decide +kernel
theorem dX5_init_13 : decode cX5_init 13 = .ok (.bipush 58, 2) := by decide +kernel
theorem dX5_init_15 : decode cX5_init 15 = .ok (.newarray .int, 2) := by decide +kernel
theorem dX5_init_17 : decode cX5_init 17 = .ok (.putfield 13, 3) := by decide +kernel
theorem dX5_init_20 : decode cX5_init 20 = .ok (.aload_n 0, 1) := by decide +kernel
theorem dX5_init_21 : decode cX5_init 21 = .ok (.bipush 58, 2) := by decide +kernel
theorem dX5_init_23 : decode cX5_init 23 = .ok (.newarray .int, 2) := by decide +kernel
theorem dX5_init_25 : decode cX5_init 25 = .ok (.putfield 16, 3) := by decide +kernel
theorem dX5_init_28 : decode cX5_init 28 = .ok (.aload_n 0, 1) := by decide +kernel
theorem dX5_init_29 : decode cX5_init 29 = .ok (.bipush 58, 2) := by decide +kernel
theorem dX5_init_31 : decode cX5_init 31 = .ok (.newarray .int, 2) := by decide +kernel
theorem dX5_init_33 : decode cX5_init 33 = .ok (.putfield 19, 3) := by decide +kernel
theorem dX5_init_36 : decode cX5_init 36 = .ok (.aload_n 0, 1) := by decide +kernel
theorem dX5_init_37 : decode cX5_init 37 = .ok (.iconst 5, 1) := by decide +kernel
theorem dX5_init_38 : decode cX5_init 38 = .ok (.newarray .int, 2) := by decide +kernel
theorem dX5_init_40 : decode cX5_init 40 = .ok (.putfield 22, 3) := by decide +kernel
theorem dX5_init_43 : decode cX5_init 43 = .ok (.aload_n 0, 1) := by decide +kernel
theorem dX5_init_44 : decode cX5_init 44 = .ok (.bipush 96, 2) := by decide +kernel
theorem dX5_init_46 : decode cX5_init 46 = .ok (.newarray .int, 2) := by decide +kernel
theorem dX5_init_48 : decode cX5_init 48 = .ok (.putfield 25, 3) := by decide +kernel
theorem dX5_init_51 : decode cX5_init 51 = .ok (.aload_n 0, 1) := by decide +kernel
theorem dX5_init_52 : decode cX5_init 52 = .ok (.bipush 16, 2) := by decide +kernel
theorem dX5_init_54 : decode cX5_init 54 = .ok (.newarray .int, 2) := by decide +kernel
theorem dX5_init_56 : decode cX5_init 56 = .ok (.putfield 28, 3) := by decide +kernel
theorem dX5_init_59 : decode cX5_init 59 = .ok (.aload_n 0, 1) := by decide +kernel
theorem dX5_init_60 : decode cX5_init 60 = .ok (.bipush 7, 2) := by decide +kernel
theorem dX5_init_62 : decode cX5_init 62 = .ok (.newarray .int, 2) := by decide +kernel
theorem dX5_init_64 : decode cX5_init 64 = .ok (.putfield 31, 3) := by decide +kernel
theorem dX5_init_67 : decode cX5_init 67 = .ok (.aload_n 0, 1) := by decide +kernel
theorem dX5_init_68 : decode cX5_init 68 = .ok (.iconst 3, 1) := by decide +kernel
theorem dX5_init_69 : decode cX5_init 69 = .ok (.newarray .int, 2) := by decide +kernel
theorem dX5_init_71 : decode cX5_init 71 = .ok (.putfield 34, 3) := by decide +kernel
theorem dX5_init_74 : decode cX5_init 74 = .ok (.return_, 1) := by decide +kernel
theorem dJ7_fill_53178_0 : decode cJ7_fill_53178 0 = .ok (.iconst 0, 1) := by decide +kernel
theorem dJ7_fill_53178_1 : decode cJ7_fill_53178 1 = .ok (.istore_n 2, 1) := by decide +kernel
theorem dJ7_fill_53178_2 : decode cJ7_fill_53178 2 = .ok (.aload_n 0, 1) := by decide +kernel
theorem dJ7_fill_53178_3 : decode cJ7_fill_53178 3 = .ok (.arraylength, 1) := by decide +kernel
theorem dJ7_fill_53178_4 : decode cJ7_fill_53178 4 = .ok (.istore_n 3, 1) := by decide +kernel
theorem dJ7_fill_53178_5 : decode cJ7_fill_53178 5 = .ok (.iload_n 2, 1) := by decide +kernel
theorem dJ7_fill_53178_6 : decode cJ7_fill_53178 6 = .ok (.iload_n 3, 1) := by decide +kernel
theorem dJ7_fill_53178_7 : decode cJ7_fill_53178 7 = .ok (.if_icmp .ge 13, 3) := by decide +kernel
theorem dJ7_fill_53178_10 : decode cJ7_fill_53178 10 = .ok (.aload_n 0, 1) := by decide +kernel
theorem dJ7_fill_53178_11 : decode cJ7_fill_53178 11 = .ok (.iload_n 2, 1) := by decide +kernel
theorem dJ7_fill_53178_12 : decode cJ7_fill_53178 12 = .ok (.iload_n 1, 1) := by decide +kernel
theorem dJ7_fill_53178_13 : decode cJ7_fill_53178 13 = .ok (.iastore, 1) := by decide +kernel
theorem dJ7_fill_53178_14 : decode cJ7_fill_53178 14 = .ok (.iinc 2 1, 3) := by decide +kernel
theorem dJ7_fill_53178_17 : decode cJ7_fill_53178 17 = .ok (.goto (-12), 3) := by decide +kernel
theorem dJ7_fill_53178_20 : decode cJ7_fill_53178 20 = .ok (.return_, 1) := by decide +kernel
theorem dL_law_0 : decode cL_law 0 = .ok (.new 7, 3) := by decide +kernel
theorem dL_law_3 : decode cL_law 3 = .ok (.dup, 1) := by decide +kernel
theorem dL_law_4 : decode cL_law 4 = .ok (.invokespecial 9, 3) := by decide +kernel
theorem dL_law_7 : decode cL_law 7 = .ok (.astore_n 1, 1) := by decide +kernel
theorem dL_law_8 : decode cL_law 8 = .ok (.new 10, 3) := by decide +kernel
theorem dL_law_11 : decode cL_law 11 = .ok (.dup, 1) := by decide +kernel
theorem dL_law_12 : decode cL_law 12 = .ok (.invokespecial 12, 3) := by decide +kernel
theorem dL_law_15 : decode cL_law 15 = .ok (.astore_n 2, 1) := by decide +kernel
theorem dL_law_16 : decode cL_law 16 = .ok (.iconst 0, 1) := by decide +kernel
theorem dL_law_17 : decode cL_law 17 = .ok (.istore_n 3, 1) := by decide +kernel
theorem dL_law_18 : decode cL_law 18 = .ok (.iload_n 3, 1) := by decide +kernel
theorem dL_law_19 : decode cL_law 19 = .ok (.aload_n 0, 1) := by decide +kernel
theorem dL_law_20 : decode cL_law 20 = .ok (.arraylength, 1) := by decide +kernel
end
section
abbrev TB : Type := List (Nat × (Instr × Nat))
def tb_X0_add : TB := [(0, (.aload_n 0, 1)), (1, (.getfield 15, 3)), (4, (.ifCond .lt 32, 3)), (7, (.aload_n 0, 1)), (8, (.getfield 15, 3)), (11, (.bipush 96, 2)), (13, (.if_icmp .ge 23, 3)), (16, (.aload_n 0, 1)), (17, (.getfield 9, 3)), (20, (.aload_n 0, 1)), (21, (.getfield 15, 3)), (24, (.iload_n 1, 1)), (25, (.iastore, 1)), (26, (.aload_n 0, 1)), (27, (.dup, 1)), (28, (.getfield 15, 3)), (31, (.iconst 1, 1)), (32, (.iadd, 1)), (33, (.putfield 15, 3)), (36, (.return_, 1))]
set_option maxRecDepth 100000 in
theorem td_X0_add : tb_X0_add.all (fun q => decide (decode cX0_add q.1 = .ok q.2)) = true := by decide +kernel
def tb_X0_formOf : TB := [(0, (.iload_n 0, 1)), (1, (.tableswitch 105 100 117 #[102, 105, 105, 105, 105, 105, 105, 105, 93, 105, 105, 105, 87, 105, 105, 99, 90, 96], 87)), (88, (.ldc 19, 2)), (90, (.areturn, 1)), (91, (.ldc 21, 2)), (93, (.areturn, 1)), (94, (.ldc 23, 2)), (96, (.areturn, 1)), (97, (.ldc 25, 2)), (99, (.areturn, 1)), (100, (.ldc 27, 2)), (102, (.areturn, 1)), (103, (.ldc 29, 2)), (105, (.areturn, 1)), (106, (.ldc 31, 2)), (108, (.areturn, 1))]
set_option maxRecDepth 100000 in
theorem td_X0_formOf : tb_X0_formOf.all (fun q => decide (decode cX0_formOf q.1 = .ok q.2)) = true := by decide +kernel
def tb_X0_fits : TB := [(0, (.iload_n 0, 1)), (1, (.lookupswitch 58 #[(57, 40), (75, 27)], 27)), (28, (.iload_n 1, 1)), (29, (.invokestatic 33, 3)), (32, (.ifCond .lt 7, 3)), (35, (.iconst 1, 1)), (36, (.goto 4, 3)), (39, (.iconst 0, 1)), (40, (.ireturn, 1)), (41, (.iload_n 1, 1)), (42, (.bipush 48, 2)), (44, (.if_icmp .lt 13, 3)), (47, (.iload_n 1, 1)), (48, (.bipush 57, 2)), (50, (.if_icmp .gt 7, 3)), (53, (.iconst 1, 1)), (54, (.goto 4, 3)), (57, (.iconst 0, 1)), (58, (.ireturn, 1)), (59, (.iload_n 1, 1)), (60, (.iload_n 0, 1)), (61, (.if_icmp .ne 7, 3)), (64, (.iconst 1, 1)), (65, (.goto 4, 3)), (68, (.iconst 0, 1)), (69, (.ireturn, 1))]
set_option maxRecDepth 100000 in
theorem td_X0_fits : tb_X0_fits.all (fun q => decide (decode cX0_fits q.1 = .ok q.2)) = true := by decide +kernel
def tb_X0_kindOf : TB := [(0, (.ldc 37, 2)), (2, (.iload_n 0, 1)), (3, (.i2c, 1)), (4, (.invokevirtual 39, 3)), (7, (.ireturn, 1))]
set_option maxRecDepth 100000 in
theorem td_X0_kindOf : tb_X0_kindOf.all (fun q => decide (decode cX0_kindOf q.1 = .ok q.2)) = true := by decide +kernel
def tb_X0_firstWrong : TB := [(0, (.ldc 31, 2)), (2, (.astore_n 1, 1)), (3, (.iconst 0, 1)), (4, (.istore_n 2, 1)), (5, (.iconst 0, 1)), (6, (.istore_n 3, 1)), (7, (.iload_n 3, 1)), (8, (.aload_n 0, 1)), (9, (.getfield 15, 3)), (12, (.if_icmp .ge 65, 3)), (15, (.iload_n 3, 1)), (16, (.bipush 96, 2)), (18, (.if_icmp .ge 59, 3)), (21, (.iload_n 2, 1)), (22, (.aload_n 1, 1)), (23, (.invokevirtual 44, 3)), (26, (.if_icmp .lt 15, 3)), (29, (.aload_n 0, 1)), (30, (.getfield 9, 3)), (33, (.iload_n 3, 1)), (34, (.iaload, 1)), (35, (.invokestatic 48, 3)), (38, (.astore_n 1, 1)), (39, (.iconst 0, 1)), (40, (.istore_n 2, 1)), (41, (.iload_n 2, 1)), (42, (.aload_n 1, 1)), (43, (.invokevirtual 44, 3)), (46, (.if_icmp .ge 20, 3)), (49, (.aload_n 1, 1)), (50, (.iload_n 2, 1)), (51, (.invokevirtual 52, 3)), (54, (.aload_n 0, 1)), (55, (.getfield 9, 3)), (58, (.iload_n 3, 1)), (59, (.iaload, 1)), (60, (.invokestatic 56, 3)), (63, (.ifCond .ne 5, 3)), (66, (.iload_n 3, 1)), (67, (.ireturn, 1)), (68, (.iinc 2 1, 3)), (71, (.iinc 3 1, 3)), (74, (.goto (-67), 3)), (77, (.aload_n 0, 1)), (78, (.getfield 15, 3)), (81, (.ifCond .eq 11, 3)), (84, (.iload_n 2, 1)), (85, (.aload_n 1, 1)), (86, (.invokevirtual 44, 3)), (89, (.if_icmp .ge 10, 3)), (92, (.aload_n 0, 1)), (93, (.getfield 15, 3)), (96, (.goto 5, 3)), (99, (.bipush (-9), 2)), (101, (.ireturn, 1))]
set_option maxRecDepth 100000 in
theorem td_X0_firstWrong : tb_X0_firstWrong.all (fun q => decide (decode cX0_firstWrong q.1 = .ok q.2)) = true := by decide +kernel
def tb_X0_letterAt : TB := [(0, (.iload_n 1, 1)), (1, (.ifCond .lt 26, 3)), (4, (.iload_n 1, 1)), (5, (.aload_n 0, 1)), (6, (.getfield 15, 3)), (9, (.if_icmp .ge 18, 3)), (12, (.iload_n 1, 1)), (13, (.bipush 96, 2)), (15, (.if_icmp .ge 12, 3)), (18, (.aload_n 0, 1)), (19, (.getfield 9, 3)), (22, (.iload_n 1, 1)), (23, (.iaload, 1)), (24, (.goto 4, 3)), (27, (.iconst 0, 1)), (28, (.ireturn, 1))]
set_option maxRecDepth 100000 in
theorem td_X0_letterAt : tb_X0_letterAt.all (fun q => decide (decode cX0_letterAt q.1 = .ok q.2)) = true := by decide +kernel
def tb_X0_digitAt : TB := [(0, (.aload_n 0, 1)), (1, (.iload_n 1, 1)), (2, (.invokevirtual 60, 3)), (5, (.bipush 48, 2)), (7, (.isub, 1)), (8, (.ireturn, 1))]
set_option maxRecDepth 100000 in
theorem td_X0_digitAt : tb_X0_digitAt.all (fun q => decide (decode cX0_digitAt q.1 = .ok q.2)) = true := by decide +kernel
def tb_X0_numberAt : TB := [(0, (.bipush 10, 2)), (2, (.aload_n 0, 1)), (3, (.iload_n 1, 1)), (4, (.invokevirtual 63, 3)), (7, (.imul, 1)), (8, (.aload_n 0, 1)), (9, (.iload_n 1, 1)), (10, (.iconst 1, 1)), (11, (.iadd, 1)), (12, (.invokevirtual 63, 3)), (15, (.iadd, 1)), (16, (.ireturn, 1))]
set_option maxRecDepth 100000 in
theorem td_X0_numberAt : tb_X0_numberAt.all (fun q => decide (decode cX0_numberAt q.1 = .ok q.2)) = true := by decide +kernel
def tb_X0_tell_0 : TB := [(0, (.aload_n 0, 1)), (1, (.iload_n 1, 1)), (2, (.invokevirtual 60, 3)), (5, (.tableswitch 204 100 117 #[192, 204, 204, 204, 204, 204, 204, 204, 142, 204, 204, 204, 87, 204, 204, 173, 116, 161], 87)), (92, (.aload_n 2, 1)), (93, (.aload_n 0, 1)), (94, (.iload_n 1, 1)), (95, (.iconst 1, 1)), (96, (.iadd, 1)), (97, (.invokevirtual 60, 3)), (100, (.invokestatic 33, 3)), (103, (.aload_n 0, 1)), (104, (.iload_n 1, 1)), (105, (.iconst 2, 1)), (106, (.iadd, 1)), (107, (.invokevirtual 63, 3)), (110, (.aload_n 0, 1)), (111, (.iload_n 1, 1)), (112, (.iconst 3, 1)), (113, (.iadd, 1)), (114, (.invokevirtual 66, 3)), (117, (.invokevirtual 69, 3)), (120, (.ireturn, 1)), (121, (.aload_n 2, 1)), (122, (.aload_n 0, 1)), (123, (.iload_n 1, 1)), (124, (.iconst 1, 1)), (125, (.iadd, 1)), (126, (.invokevirtual 63, 3)), (129, (.aload_n 0, 1)), (130, (.iload_n 1, 1)), (131, (.iconst 2, 1)), (132, (.iadd, 1)), (133, (.invokevirtual 66, 3)), (136, (.aload_n 0, 1)), (137, (.iload_n 1, 1)), (138, (.iconst 4, 1)), (139, (.iadd, 1)), (140, (.invokevirtual 63, 3)), (143, (.invokevirtual 75, 3)), (146, (.ireturn, 1)), (147, (.aload_n 2, 1)), (148, (.aload_n 0, 1)), (149, (.iload_n 1, 1)), (150, (.iconst 1, 1)), (151, (.iadd, 1)), (152, (.invokevirtual 63, 3)), (155, (.aload_n 0, 1)), (156, (.iload_n 1, 1)), (157, (.iconst 2, 1)), (158, (.iadd, 1)), (159, (.invokevirtual 63, 3)), (162, (.invokevirtual 78, 3)), (165, (.ireturn, 1)), (166, (.aload_n 2, 1)), (167, (.aload_n 0, 1)), (168, (.iload_n 1, 1)), (169, (.iconst 1, 1)), (170, (.iadd, 1)), (171, (.invokevirtual 63, 3))]
set_option maxRecDepth 100000 in
theorem td_X0_tell_0 : tb_X0_tell_0.all (fun q => decide (decode cX0_tell q.1 = .ok q.2)) = true := by decide +kernel
def tb_X0_tell_1 : TB := [(174, (.invokevirtual 82, 3)), (177, (.ireturn, 1)), (178, (.aload_n 2, 1)), (179, (.aload_n 0, 1)), (180, (.iload_n 1, 1)), (181, (.iconst 1, 1)), (182, (.iadd, 1)), (183, (.invokevirtual 63, 3)), (186, (.aload_n 0, 1)), (187, (.iload_n 1, 1)), (188, (.iconst 2, 1)), (189, (.iadd, 1)), (190, (.invokevirtual 66, 3)), (193, (.invokevirtual 86, 3)), (196, (.ireturn, 1)), (197, (.aload_n 0, 1)), (198, (.iload_n 1, 1)), (199, (.iconst 1, 1)), (200, (.iadd, 1)), (201, (.invokevirtual 66, 3)), (204, (.aload_n 2, 1)), (205, (.invokestatic 89, 3)), (208, (.ireturn, 1)), (209, (.iconst 0, 1)), (210, (.ireturn, 1))]
set_option maxRecDepth 100000 in
theorem td_X0_tell_1 : tb_X0_tell_1.all (fun q => decide (decode cX0_tell q.1 = .ok q.2)) = true := by decide +kernel
def tb_X0_tell : TB := tb_X0_tell_0 ++ (tb_X0_tell_1)
theorem td_X0_tell : tb_X0_tell.all (fun q => decide (decode cX0_tell q.1 = .ok q.2)) = true := by simp only [tb_X0_tell, List.all_append, td_X0_tell_0, td_X0_tell_1, Bool.and_self]
def tb_X0_tellDays : TB := [(0, (.iload_n 0, 1)), (1, (.iconst 1, 1)), (2, (.if_icmp .lt 21, 3)), (5, (.iload_n 0, 1)), (6, (.bipush 60, 2)), (8, (.if_icmp .gt 15, 3)), (11, (.iload_n 0, 1)), (12, (.sipush 999, 3)), (15, (.aload_n 1, 1)), (16, (.getfield 93, 3)), (19, (.isub, 1)), (20, (.if_icmp .le 5, 3)), (23, (.iconst 0, 1)), (24, (.ireturn, 1)), (25, (.iconst 0, 1)), (26, (.istore_n 2, 1)), (27, (.iload_n 2, 1)), (28, (.iload_n 0, 1)), (29, (.if_icmp .ge 13, 3)), (32, (.aload_n 1, 1)), (33, (.invokevirtual 96, 3)), (36, (.iinc 2 1, 3)), (39, (.goto (-12), 3)), (42, (.iconst 1, 1)), (43, (.ireturn, 1))]
set_option maxRecDepth 100000 in
theorem td_X0_tellDays : tb_X0_tellDays.all (fun q => decide (decode cX0_tellDays q.1 = .ok q.2)) = true := by decide +kernel
def tb_X1_hear : TB := [(0, (.aload_n 0, 1)), (1, (.getfield 18, 3)), (4, (.aload_n 0, 1)), (5, (.getfield 12, 3)), (8, (.invokevirtual 25, 3)), (11, (.iconst 0, 1)), (12, (.istore_n 2, 1)), (13, (.iconst 0, 1)), (14, (.istore_n 3, 1)), (15, (.iconst 0, 1)), (16, (.istore 4, 2)), (18, (.iload 4, 2)), (20, (.bipush 96, 2)), (22, (.if_icmp .ge 52, 3)), (25, (.iload_n 2, 1)), (26, (.aload_n 1, 1)), (27, (.getfield 29, 3)), (30, (.if_icmp .ge 44, 3)), (33, (.aload_n 1, 1)), (34, (.iload_n 2, 1)), (35, (.aload_n 0, 1)), (36, (.getfield 18, 3)), (39, (.invokevirtual 35, 3)), (42, (.ifCond .ne 9, 3)), (45, (.sipush (-2000), 3)), (48, (.iload_n 2, 1)), (49, (.isub, 1)), (50, (.ireturn, 1)), (51, (.iload_n 2, 1)), (52, (.aload_n 1, 1)), (53, (.iload_n 2, 1)), (54, (.invokevirtual 39, 3)), (57, (.invokestatic 43, 3)), (60, (.invokevirtual 47, 3)), (63, (.iadd, 1)), (64, (.istore_n 2, 1)), (65, (.iinc 3 1, 3)), (68, (.iinc 4 1, 3)), (71, (.goto (-53), 3)), (74, (.aload_n 0, 1)), (75, (.getfield 12, 3)), (78, (.aload_n 0, 1)), (79, (.getfield 18, 3)), (82, (.invokevirtual 25, 3)), (85, (.iload_n 3, 1)), (86, (.ireturn, 1))]
set_option maxRecDepth 100000 in
theorem td_X1_hear : tb_X1_hear.all (fun q => decide (decode cX1_hear q.1 = .ok q.2)) = true := by decide +kernel
def tb_X1_behind : TB := [(0, (.aload_n 0, 1)), (1, (.getfield 18, 3)), (4, (.aload_n 0, 1)), (5, (.getfield 12, 3)), (8, (.invokevirtual 25, 3)), (11, (.aload_n 0, 1)), (12, (.getfield 18, 3)), (15, (.iload_n 1, 1)), (16, (.invokevirtual 53, 3)), (19, (.aload_n 0, 1)), (20, (.getfield 18, 3)), (23, (.areturn, 1))]
set_option maxRecDepth 100000 in
theorem td_X1_behind : tb_X1_behind.all (fun q => decide (decode cX1_behind q.1 = .ok q.2)) = true := by decide +kernel
def tb_X1_downBehind : TB := [(0, (.aload_n 0, 1)), (1, (.getfield 18, 3)), (4, (.aload_n 0, 1)), (5, (.getfield 12, 3)), (8, (.invokevirtual 25, 3)), (11, (.aload_n 0, 1)), (12, (.iload_n 1, 1)), (13, (.invokevirtual 57, 3)), (16, (.ireturn, 1))]
set_option maxRecDepth 100000 in
theorem td_X1_downBehind : tb_X1_downBehind.all (fun q => decide (decode cX1_downBehind q.1 = .ok q.2)) = true := by decide +kernel
def tb_X1_downFromThen : TB := [(0, (.iconst 0, 1)), (1, (.istore_n 2, 1)), (2, (.iload_n 2, 1)), (3, (.bipush 99, 2)), (5, (.if_icmp .gt 29, 3)), (8, (.aload_n 0, 1)), (9, (.getfield 18, 3)), (12, (.iload_n 1, 1)), (13, (.invokevirtual 60, 3)), (16, (.ifCond .ne 5, 3)), (19, (.iload_n 2, 1)), (20, (.ireturn, 1)), (21, (.aload_n 0, 1)), (22, (.getfield 18, 3)), (25, (.invokevirtual 64, 3)), (28, (.iinc 2 1, 3)), (31, (.goto (-29), 3)), (34, (.bipush (-9), 2)), (36, (.ireturn, 1))]
set_option maxRecDepth 100000 in
theorem td_X1_downFromThen : tb_X1_downFromThen.all (fun q => decide (decode cX1_downFromThen q.1 = .ok q.2)) = true := by decide +kernel
def tb_X1_firstDownBehind : TB := [(0, (.aload_n 0, 1)), (1, (.getfield 18, 3)), (4, (.aload_n 0, 1)), (5, (.getfield 12, 3)), (8, (.invokevirtual 25, 3)), (11, (.iconst 1, 1)), (12, (.istore_n 1, 1)), (13, (.iload_n 1, 1)), (14, (.bipush 99, 2)), (16, (.if_icmp .gt 35, 3)), (19, (.aload_n 0, 1)), (20, (.getfield 18, 3)), (23, (.invokevirtual 64, 3)), (26, (.aload_n 0, 1)), (27, (.getfield 18, 3)), (30, (.getfield 67, 3)), (33, (.aload_n 0, 1)), (34, (.getfield 12, 3)), (37, (.getfield 67, 3)), (40, (.if_icmp .eq 5, 3)), (43, (.iload_n 1, 1)), (44, (.ireturn, 1)), (45, (.iinc 1 1, 3)), (48, (.goto (-35), 3)), (51, (.bipush (-9), 2)), (53, (.ireturn, 1))]
set_option maxRecDepth 100000 in
theorem td_X1_firstDownBehind : tb_X1_firstDownBehind.all (fun q => decide (decode cX1_firstDownBehind q.1 = .ok q.2)) = true := by decide +kernel
def tb_X1_flatBehind : TB := [(0, (.aload_n 0, 1)), (1, (.getfield 18, 3)), (4, (.aload_n 0, 1)), (5, (.getfield 12, 3)), (8, (.invokevirtual 25, 3)), (11, (.iconst 0, 1)), (12, (.istore_n 1, 1)), (13, (.iload_n 1, 1)), (14, (.bipush 99, 2)), (16, (.if_icmp .gt 28, 3)), (19, (.aload_n 0, 1)), (20, (.getfield 18, 3)), (23, (.getfield 67, 3)), (26, (.ifCond .ne 5, 3)), (29, (.iload_n 1, 1)), (30, (.ireturn, 1)), (31, (.aload_n 0, 1)), (32, (.getfield 18, 3)), (35, (.invokevirtual 64, 3)), (38, (.iinc 1 1, 3)), (41, (.goto (-28), 3)), (44, (.bipush (-9), 2)), (46, (.ireturn, 1))]
set_option maxRecDepth 100000 in
theorem td_X1_flatBehind : tb_X1_flatBehind.all (fun q => decide (decode cX1_flatBehind q.1 = .ok q.2)) = true := by decide +kernel
def tb_X1_betterLean : TB := [(0, (.bipush (-9), 2)), (2, (.istore_n 2, 1)), (3, (.iconst (-1), 1)), (4, (.istore_n 3, 1)), (5, (.iconst 0, 1)), (6, (.istore 4, 2)), (8, (.iload 4, 2)), (10, (.aload_n 0, 1)), (11, (.getfield 12, 3)), (14, (.getfield 70, 3)), (17, (.if_icmp .ge 66, 3)), (20, (.aload_n 0, 1)), (21, (.getfield 18, 3)), (24, (.aload_n 0, 1)), (25, (.getfield 12, 3)), (28, (.invokevirtual 25, 3)), (31, (.aload_n 0, 1)), (32, (.getfield 18, 3)), (35, (.iload_n 1, 1)), (36, (.iload 4, 2)), (38, (.invokevirtual 73, 3)), (41, (.pop, 1)), (42, (.aload_n 0, 1)), (43, (.iload_n 1, 1)), (44, (.invokevirtual 57, 3)), (47, (.istore 5, 2)), (49, (.iload 5, 2)), (51, (.bipush (-9), 2)), (53, (.if_icmp .ne 8, 3)), (56, (.bipush 100, 2)), (58, (.goto 5, 3)), (61, (.iload 5, 2)), (63, (.istore 6, 2)), (65, (.iload 6, 2)), (67, (.iload_n 3, 1)), (68, (.if_icmp .le 9, 3)), (71, (.iload 4, 2)), (73, (.istore_n 2, 1)), (74, (.iload 6, 2)), (76, (.istore_n 3, 1)), (77, (.iinc 4 1, 3)), (80, (.goto (-72), 3)), (83, (.iload_n 2, 1)), (84, (.ireturn, 1))]
set_option maxRecDepth 100000 in
theorem td_X1_betterLean : tb_X1_betterLean.all (fun q => decide (decode cX1_betterLean q.1 = .ok q.2)) = true := by decide +kernel
def tb_X1_bestOfThree : TB := [(0, (.bipush (-9), 2)), (2, (.istore 5, 2)), (4, (.iconst (-1), 1)), (5, (.istore 6, 2)), (7, (.iconst 0, 1)), (8, (.istore 7, 2)), (10, (.iload 7, 2)), (12, (.aload_n 0, 1)), (13, (.getfield 12, 3)), (16, (.getfield 70, 3)), (19, (.if_icmp .ge 95, 3)), (22, (.iconst 0, 1)), (23, (.istore 8, 2)), (25, (.iload 8, 2)), (27, (.aload_n 0, 1)), (28, (.getfield 12, 3)), (31, (.getfield 70, 3)), (34, (.if_icmp .ge 74, 3)), (37, (.iconst 0, 1)), (38, (.istore 9, 2)), (40, (.iload 9, 2)), (42, (.aload_n 0, 1)), (43, (.getfield 12, 3)), (46, (.getfield 70, 3)), (49, (.if_icmp .ge 53, 3)), (52, (.bipush 100, 2)), (54, (.iload 7, 2)), (56, (.imul, 1)), (57, (.bipush 10, 2)), (59, (.iload 8, 2)), (61, (.imul, 1)), (62, (.iadd, 1)), (63, (.iload 9, 2)), (65, (.iadd, 1)), (66, (.istore 10, 2)), (68, (.aload_n 0, 1)), (69, (.iload_n 1, 1)), (70, (.iload_n 2, 1)), (71, (.iload_n 3, 1)), (72, (.iload 10, 2)), (74, (.iload 4, 2)), (76, (.invokevirtual 77, 3)), (79, (.istore 11, 2)), (81, (.iload 11, 2)), (83, (.iload 6, 2)), (85, (.if_icmp .le 11, 3)), (88, (.iload 10, 2)), (90, (.istore 5, 2)), (92, (.iload 11, 2)), (94, (.istore 6, 2)), (96, (.iinc 9 1, 3)), (99, (.goto (-59), 3)), (102, (.iinc 8 1, 3)), (105, (.goto (-80), 3)), (108, (.iinc 7 1, 3)), (111, (.goto (-101), 3)), (114, (.iload 5, 2)), (116, (.ireturn, 1))]
set_option maxRecDepth 100000 in
theorem td_X1_bestOfThree : tb_X1_bestOfThree.all (fun q => decide (decode cX1_bestOfThree q.1 = .ok q.2)) = true := by decide +kernel
def tb_X1_standingLeant : TB := [(0, (.aload_n 0, 1)), (1, (.getfield 18, 3)), (4, (.aload_n 0, 1)), (5, (.getfield 12, 3)), (8, (.invokevirtual 25, 3)), (11, (.aload_n 0, 1)), (12, (.getfield 18, 3)), (15, (.iload_n 1, 1)), (16, (.iload 4, 2)), (18, (.bipush 100, 2)), (20, (.idiv, 1)), (21, (.invokevirtual 73, 3)), (24, (.pop, 1)), (25, (.aload_n 0, 1)), (26, (.getfield 18, 3)), (29, (.iload_n 2, 1)), (30, (.iload 4, 2)), (32, (.bipush 10, 2)), (34, (.idiv, 1)), (35, (.bipush 10, 2)), (37, (.irem, 1)), (38, (.invokevirtual 73, 3)), (41, (.pop, 1)), (42, (.aload_n 0, 1)), (43, (.getfield 18, 3)), (46, (.iload_n 3, 1)), (47, (.iload 4, 2)), (49, (.bipush 10, 2)), (51, (.irem, 1)), (52, (.invokevirtual 73, 3)), (55, (.pop, 1)), (56, (.aload_n 0, 1)), (57, (.getfield 18, 3)), (60, (.iload 5, 2)), (62, (.invokevirtual 53, 3)), (65, (.aload_n 0, 1)), (66, (.getfield 18, 3)), (69, (.invokevirtual 81, 3)), (72, (.ireturn, 1))]
set_option maxRecDepth 100000 in
theorem td_X1_standingLeant : tb_X1_standingLeant.all (fun q => decide (decode cX1_standingLeant q.1 = .ok q.2)) = true := by decide +kernel
def tb_X1_toMend : TB := [(0, (.bipush (-9), 2)), (2, (.istore_n 2, 1)), (3, (.aload_n 0, 1)), (4, (.iload_n 1, 1)), (5, (.invokevirtual 84, 3)), (8, (.invokevirtual 81, 3)), (11, (.istore_n 3, 1)), (12, (.iconst 0, 1)), (13, (.istore 4, 2)), (15, (.iload 4, 2)), (17, (.aload_n 0, 1)), (18, (.getfield 12, 3)), (21, (.getfield 70, 3)), (24, (.if_icmp .ge 32, 3)), (27, (.aload_n 0, 1)), (28, (.iload 4, 2)), (30, (.bipush 99, 2)), (32, (.iload_n 1, 1)), (33, (.invokevirtual 88, 3)), (36, (.istore 5, 2)), (38, (.iload 5, 2)), (40, (.iload_n 3, 1)), (41, (.if_icmp .le 9, 3)), (44, (.iload 4, 2)), (46, (.istore_n 2, 1)), (47, (.iload 5, 2)), (49, (.istore_n 3, 1)), (50, (.iinc 4 1, 3)), (53, (.goto (-38), 3)), (56, (.iload_n 2, 1)), (57, (.ireturn, 1))]
set_option maxRecDepth 100000 in
theorem td_X1_toMend : tb_X1_toMend.all (fun q => decide (decode cX1_toMend q.1 = .ok q.2)) = true := by decide +kernel
def tb_X1_toBreak : TB := [(0, (.bipush (-9), 2)), (2, (.istore_n 2, 1)), (3, (.aload_n 0, 1)), (4, (.iload_n 1, 1)), (5, (.invokevirtual 84, 3)), (8, (.invokevirtual 81, 3)), (11, (.istore_n 3, 1)), (12, (.iconst 0, 1)), (13, (.istore 4, 2)), (15, (.iload 4, 2)), (17, (.aload_n 0, 1)), (18, (.getfield 12, 3)), (21, (.getfield 70, 3)), (24, (.if_icmp .ge 31, 3)), (27, (.aload_n 0, 1)), (28, (.iload 4, 2)), (30, (.iconst 0, 1)), (31, (.iload_n 1, 1)), (32, (.invokevirtual 88, 3)), (35, (.istore 5, 2)), (37, (.iload 5, 2)), (39, (.iload_n 3, 1)), (40, (.if_icmp .ge 9, 3)), (43, (.iload 4, 2)), (45, (.istore_n 2, 1)), (46, (.iload 5, 2)), (48, (.istore_n 3, 1)), (49, (.iinc 4 1, 3)), (52, (.goto (-37), 3)), (55, (.iload_n 2, 1)), (56, (.ireturn, 1))]
set_option maxRecDepth 100000 in
theorem td_X1_toBreak : tb_X1_toBreak.all (fun q => decide (decode cX1_toBreak q.1 = .ok q.2)) = true := by decide +kernel
def tb_X1_standingWith : TB := [(0, (.aload_n 0, 1)), (1, (.getfield 18, 3)), (4, (.aload_n 0, 1)), (5, (.getfield 12, 3)), (8, (.invokevirtual 25, 3)), (11, (.aload_n 0, 1)), (12, (.getfield 18, 3)), (15, (.iload_n 1, 1)), (16, (.iload_n 2, 1)), (17, (.invokevirtual 92, 3)), (20, (.pop, 1)), (21, (.aload_n 0, 1)), (22, (.getfield 18, 3)), (25, (.iload_n 3, 1)), (26, (.invokevirtual 53, 3)), (29, (.aload_n 0, 1)), (30, (.getfield 18, 3)), (33, (.invokevirtual 81, 3)), (36, (.ireturn, 1))]
set_option maxRecDepth 100000 in
theorem td_X1_standingWith : tb_X1_standingWith.all (fun q => decide (decode cX1_standingWith q.1 = .ok q.2)) = true := by decide +kernel
def tb_X1_safestPlace : TB := [(0, (.bipush (-9), 2)), (2, (.istore_n 2, 1)), (3, (.bipush 11, 2)), (5, (.istore_n 3, 1)), (6, (.iconst 0, 1)), (7, (.istore 4, 2)), (9, (.iload 4, 2)), (11, (.bipush 20, 2)), (13, (.if_icmp .ge 48, 3)), (16, (.aload_n 0, 1)), (17, (.getfield 12, 3)), (20, (.iload_n 1, 1)), (21, (.iload 4, 2)), (23, (.invokevirtual 95, 3)), (26, (.ifCond .eq 13, 3)), (29, (.aload_n 0, 1)), (30, (.iload_n 1, 1)), (31, (.iload 4, 2)), (33, (.invokevirtual 98, 3)), (36, (.goto 5, 3)), (39, (.bipush 11, 2)), (41, (.istore 5, 2)), (43, (.iload 5, 2)), (45, (.iload_n 3, 1)), (46, (.if_icmp .ge 9, 3)), (49, (.iload 4, 2)), (51, (.istore_n 2, 1)), (52, (.iload 5, 2)), (54, (.istore_n 3, 1)), (55, (.iinc 4 1, 3)), (58, (.goto (-49), 3)), (61, (.iload_n 2, 1)), (62, (.ireturn, 1))]
set_option maxRecDepth 100000 in
theorem td_X1_safestPlace : tb_X1_safestPlace.all (fun q => decide (decode cX1_safestPlace q.1 = .ok q.2)) = true := by decide +kernel
def tb_X1_felledFrom : TB := [(0, (.aload_n 0, 1)), (1, (.getfield 18, 3)), (4, (.aload_n 0, 1)), (5, (.getfield 12, 3)), (8, (.invokevirtual 25, 3)), (11, (.aload_n 0, 1)), (12, (.getfield 18, 3)), (15, (.iload_n 1, 1)), (16, (.iload_n 2, 1)), (17, (.invokevirtual 102, 3)), (20, (.aload_n 0, 1)), (21, (.getfield 18, 3)), (24, (.iload_n 1, 1)), (25, (.iconst 0, 1)), (26, (.invokevirtual 106, 3)), (29, (.invokestatic 109, 3)), (32, (.ireturn, 1))]
set_option maxRecDepth 100000 in
theorem td_X1_felledFrom : tb_X1_felledFrom.all (fun q => decide (decode cX1_felledFrom q.1 = .ok q.2)) = true := by decide +kernel
def tb_X1_standingRobbed : TB := [(0, (.aload_n 0, 1)), (1, (.getfield 18, 3)), (4, (.aload_n 0, 1)), (5, (.getfield 12, 3)), (8, (.invokevirtual 25, 3)), (11, (.iconst 0, 1)), (12, (.istore_n 2, 1)), (13, (.iload_n 2, 1)), (14, (.iload_n 1, 1)), (15, (.if_icmp .ge 31, 3)), (18, (.aload_n 0, 1)), (19, (.getfield 18, 3)), (22, (.aload_n 0, 1)), (23, (.getfield 18, 3)), (26, (.invokevirtual 114, 3)), (29, (.invokevirtual 117, 3)), (32, (.pop, 1)), (33, (.aload_n 0, 1)), (34, (.getfield 18, 3)), (37, (.invokevirtual 64, 3)), (40, (.iinc 2 1, 3)), (43, (.goto (-30), 3)), (46, (.aload_n 0, 1)), (47, (.getfield 18, 3)), (50, (.invokevirtual 81, 3)), (53, (.ireturn, 1))]
set_option maxRecDepth 100000 in
theorem td_X1_standingRobbed : tb_X1_standingRobbed.all (fun q => decide (decode cX1_standingRobbed q.1 = .ok q.2)) = true := by decide +kernel
def tb_X1_nothingToRobBehind : TB := [(0, (.aload_n 0, 1)), (1, (.getfield 18, 3)), (4, (.aload_n 0, 1)), (5, (.getfield 12, 3)), (8, (.invokevirtual 25, 3)), (11, (.iconst 0, 1)), (12, (.istore_n 1, 1)), (13, (.iload_n 1, 1)), (14, (.bipush 99, 2)), (16, (.if_icmp .gt 41, 3)), (19, (.aload_n 0, 1)), (20, (.getfield 18, 3)), (23, (.invokevirtual 114, 3)), (26, (.istore_n 2, 1)), (27, (.iload_n 2, 1)), (28, (.bipush (-9), 2)), (30, (.if_icmp .ne 5, 3)), (33, (.iload_n 1, 1)), (34, (.ireturn, 1)), (35, (.aload_n 0, 1)), (36, (.getfield 18, 3)), (39, (.iload_n 2, 1)), (40, (.invokevirtual 117, 3)), (43, (.pop, 1)), (44, (.aload_n 0, 1)), (45, (.getfield 18, 3)), (48, (.invokevirtual 64, 3)), (51, (.iinc 1 1, 3)), (54, (.goto (-41), 3)), (57, (.bipush (-9), 2)), (59, (.ireturn, 1))]
set_option maxRecDepth 100000 in
theorem td_X1_nothingToRobBehind : tb_X1_nothingToRobBehind.all (fun q => decide (decode cX1_nothingToRobBehind q.1 = .ok q.2)) = true := by decide +kernel
def tb_X1_waysUp : TB := [(0, (.lconst 0, 1)), (1, (.lstore 4, 2)), (3, (.iconst 0, 1)), (4, (.istore 6, 2)), (6, (.iload 6, 2)), (8, (.iconst 1, 1)), (9, (.iload_n 2, 1)), (10, (.ishl, 1)), (11, (.if_icmp .ge 38, 3)), (14, (.aload_n 0, 1)), (15, (.iload_n 1, 1)), (16, (.iload_n 2, 1)), (17, (.iload 6, 2)), (19, (.invokevirtual 120, 3)), (22, (.ifCond .eq 21, 3)), (25, (.lload 4, 2)), (27, (.iload_n 3, 1)), (28, (.iconst 1, 1)), (29, (.isub, 1)), (30, (.iload_n 2, 1)), (31, (.iload 6, 2)), (33, (.invokestatic 109, 3)), (36, (.isub, 1)), (37, (.invokestatic 124, 3)), (40, (.ladd, 1)), (41, (.lstore 4, 2)), (43, (.iinc 6 1, 3)), (46, (.goto (-40), 3)), (49, (.lload 4, 2)), (51, (.lreturn, 1))]
set_option maxRecDepth 100000 in
theorem td_X1_waysUp : tb_X1_waysUp.all (fun q => decide (decode cX1_waysUp q.1 = .ok q.2)) = true := by decide +kernel
def tb_X1_isUpDraughted : TB := [(0, (.aload_n 0, 1)), (1, (.getfield 18, 3)), (4, (.aload_n 0, 1)), (5, (.getfield 12, 3)), (8, (.invokevirtual 25, 3)), (11, (.iconst 0, 1)), (12, (.istore 4, 2)), (14, (.iload 4, 2)), (16, (.iload_n 2, 1)), (17, (.if_icmp .ge 47, 3)), (20, (.iload_n 3, 1)), (21, (.iload 4, 2)), (23, (.invokestatic 128, 3)), (26, (.ifCond .eq 25, 3)), (29, (.aload_n 0, 1)), (30, (.getfield 18, 3)), (33, (.aload_n 0, 1)), (34, (.getfield 18, 3)), (37, (.aload_n 0, 1)), (38, (.getfield 18, 3)), (41, (.getfield 67, 3)), (44, (.invokevirtual 131, 3)), (47, (.invokevirtual 117, 3)), (50, (.pop, 1)), (51, (.aload_n 0, 1)), (52, (.getfield 18, 3)), (55, (.invokevirtual 64, 3)), (58, (.iinc 4 1, 3)), (61, (.goto (-47), 3)), (64, (.aload_n 0, 1)), (65, (.getfield 18, 3)), (68, (.iload_n 1, 1)), (69, (.invokevirtual 60, 3)), (72, (.ireturn, 1))]
set_option maxRecDepth 100000 in
theorem td_X1_isUpDraughted : tb_X1_isUpDraughted.all (fun q => decide (decode cX1_isUpDraughted q.1 = .ok q.2)) = true := by decide +kernel
def tb_X1_settled_0 : TB := [(0, (.iconst 0, 1)), (1, (.istore 4, 2)), (3, (.iload 4, 2)), (5, (.iconst 4, 1)), (6, (.if_icmp .ge 49, 3)), (9, (.aload_n 0, 1)), (10, (.getfield 21, 3)), (13, (.iload 4, 2)), (15, (.aload_n 0, 1)), (16, (.iload 4, 2)), (18, (.iconst 2, 1)), (19, (.idiv, 1)), (20, (.iconst 1, 1)), (21, (.if_icmp .ne 7, 3)), (24, (.iload_n 1, 1)), (25, (.goto 5, 3)), (28, (.bipush (-9), 2)), (30, (.iload 4, 2)), (32, (.iconst 2, 1)), (33, (.irem, 1)), (34, (.iconst 1, 1)), (35, (.if_icmp .ne 7, 3)), (38, (.iload_n 2, 1)), (39, (.goto 5, 3)), (42, (.bipush (-9), 2)), (44, (.iload_n 3, 1)), (45, (.invokevirtual 134, 3)), (48, (.iastore, 1)), (49, (.iinc 4 1, 3)), (52, (.goto (-49), 3)), (55, (.iconst 0, 1)), (56, (.istore 4, 2)), (58, (.iload 4, 2)), (60, (.iconst 4, 1)), (61, (.if_icmp .ge 60, 3)), (64, (.aload_n 0, 1)), (65, (.getfield 21, 3)), (68, (.iload 4, 2)), (70, (.iaload, 1)), (71, (.aload_n 0, 1)), (72, (.getfield 21, 3)), (75, (.iload 4, 2)), (77, (.iconst 2, 1)), (78, (.ixor, 1)), (79, (.iaload, 1)), (80, (.if_icmp .lt 35, 3)), (83, (.aload_n 0, 1)), (84, (.getfield 21, 3)), (87, (.iload 4, 2)), (89, (.iaload, 1)), (90, (.aload_n 0, 1)), (91, (.getfield 21, 3)), (94, (.iload 4, 2)), (96, (.iconst 1, 1)), (97, (.ixor, 1)), (98, (.iaload, 1)), (99, (.if_icmp .gt 16, 3)), (102, (.bipush 10, 2)), (104, (.iload 4, 2)), (106, (.iconst 2, 1))]
set_option maxRecDepth 100000 in
theorem td_X1_settled_0 : tb_X1_settled_0.all (fun q => decide (decode cX1_settled q.1 = .ok q.2)) = true := by decide +kernel
def tb_X1_settled_1 : TB := [(107, (.idiv, 1)), (108, (.imul, 1)), (109, (.iload 4, 2)), (111, (.iconst 2, 1)), (112, (.irem, 1)), (113, (.iadd, 1)), (114, (.ireturn, 1)), (115, (.iinc 4 1, 3)), (118, (.goto (-60), 3)), (121, (.bipush (-9), 2)), (123, (.ireturn, 1))]
set_option maxRecDepth 100000 in
theorem td_X1_settled_1 : tb_X1_settled_1.all (fun q => decide (decode cX1_settled q.1 = .ok q.2)) = true := by decide +kernel
def tb_X1_settled : TB := tb_X1_settled_0 ++ (tb_X1_settled_1)
theorem td_X1_settled : tb_X1_settled.all (fun q => decide (decode cX1_settled q.1 = .ok q.2)) = true := by simp only [tb_X1_settled, List.all_append, td_X1_settled_0, td_X1_settled_1, Bool.and_self]
def tb_X1_standingPushed : TB := [(0, (.aload_n 0, 1)), (1, (.getfield 18, 3)), (4, (.aload_n 0, 1)), (5, (.getfield 12, 3)), (8, (.invokevirtual 25, 3)), (11, (.aload_n 0, 1)), (12, (.getfield 18, 3)), (15, (.iload_n 1, 1)), (16, (.invokevirtual 117, 3)), (19, (.pop, 1)), (20, (.aload_n 0, 1)), (21, (.getfield 18, 3)), (24, (.iload_n 2, 1)), (25, (.invokevirtual 117, 3)), (28, (.pop, 1)), (29, (.aload_n 0, 1)), (30, (.getfield 18, 3)), (33, (.iload_n 3, 1)), (34, (.invokevirtual 53, 3)), (37, (.aload_n 0, 1)), (38, (.getfield 18, 3)), (41, (.invokevirtual 81, 3)), (44, (.ireturn, 1))]
set_option maxRecDepth 100000 in
theorem td_X1_standingPushed : tb_X1_standingPushed.all (fun q => decide (decode cX1_standingPushed q.1 = .ok q.2)) = true := by decide +kernel
def tb_X1_weakensAs : TB := [(0, (.aload_n 0, 1)), (1, (.getfield 18, 3)), (4, (.aload_n 0, 1)), (5, (.getfield 12, 3)), (8, (.invokevirtual 25, 3)), (11, (.aload_n 0, 1)), (12, (.getfield 18, 3)), (15, (.iload_n 1, 1)), (16, (.invokevirtual 137, 3)), (19, (.ifCond .ne 5, 3)), (22, (.iconst 0, 1)), (23, (.ireturn, 1)), (24, (.aload_n 0, 1)), (25, (.getfield 18, 3)), (28, (.getfield 140, 3)), (31, (.iload_n 1, 1)), (32, (.iload_n 2, 1)), (33, (.iastore, 1)), (34, (.aload_n 0, 1)), (35, (.getfield 18, 3)), (38, (.getfield 143, 3)), (41, (.iload_n 1, 1)), (42, (.iload_n 3, 1)), (43, (.iastore, 1)), (44, (.iconst 0, 1)), (45, (.istore 6, 2)), (47, (.iload 6, 2)), (49, (.iload 5, 2)), (51, (.if_icmp .ge 43, 3)), (54, (.iload 6, 2)), (56, (.aload 4, 2)), (58, (.arraylength, 1)), (59, (.if_icmp .ge 35, 3)), (62, (.aload_n 0, 1)), (63, (.getfield 18, 3)), (66, (.getfield 146, 3)), (69, (.iload_n 1, 1)), (70, (.iaload, 1)), (71, (.aload 4, 2)), (73, (.iload 6, 2)), (75, (.iaload, 1)), (76, (.if_icmp .eq 5, 3)), (79, (.iconst 0, 1)), (80, (.ireturn, 1)), (81, (.aload_n 0, 1)), (82, (.getfield 18, 3)), (85, (.invokevirtual 64, 3)), (88, (.iinc 6 1, 3)), (91, (.goto (-44), 3)), (94, (.iconst 1, 1)), (95, (.ireturn, 1))]
set_option maxRecDepth 100000 in
theorem td_X1_weakensAs : tb_X1_weakensAs.all (fun q => decide (decode cX1_weakensAs q.1 = .ok q.2)) = true := by decide +kernel
def tb_X1_firstMisjudged : TB := [(0, (.aload_n 0, 1)), (1, (.getfield 18, 3)), (4, (.aload_n 0, 1)), (5, (.getfield 12, 3)), (8, (.invokevirtual 25, 3)), (11, (.iconst 0, 1)), (12, (.istore_n 3, 1)), (13, (.iload_n 3, 1)), (14, (.iload_n 2, 1)), (15, (.if_icmp .ge 37, 3)), (18, (.iload_n 3, 1)), (19, (.aload_n 1, 1)), (20, (.arraylength, 1)), (21, (.if_icmp .ge 31, 3)), (24, (.aload_n 0, 1)), (25, (.getfield 18, 3)), (28, (.invokevirtual 81, 3)), (31, (.aload_n 1, 1)), (32, (.iload_n 3, 1)), (33, (.iaload, 1)), (34, (.if_icmp .eq 5, 3)), (37, (.iload_n 3, 1)), (38, (.ireturn, 1)), (39, (.aload_n 0, 1)), (40, (.getfield 18, 3)), (43, (.invokevirtual 64, 3)), (46, (.iinc 3 1, 3)), (49, (.goto (-36), 3)), (52, (.bipush (-9), 2)), (54, (.ireturn, 1))]
set_option maxRecDepth 100000 in
theorem td_X1_firstMisjudged : tb_X1_firstMisjudged.all (fun q => decide (decode cX1_firstMisjudged q.1 = .ok q.2)) = true := by decide +kernel
def tb_X1_termsByLot : TB := [(0, (.iconst 0, 1)), (1, (.istore 4, 2)), (3, (.iload_n 2, 1)), (4, (.istore 5, 2)), (6, (.iconst 0, 1)), (7, (.istore 6, 2)), (9, (.iload 6, 2)), (11, (.iload_n 1, 1)), (12, (.if_icmp .ge 105, 3)), (15, (.aload_n 0, 1)), (16, (.getfield 18, 3)), (19, (.aload_n 0, 1)), (20, (.getfield 12, 3)), (23, (.invokevirtual 25, 3)), (26, (.iconst 0, 1)), (27, (.istore 7, 2)), (29, (.iload 7, 2)), (31, (.aload_n 0, 1)), (32, (.getfield 12, 3)), (35, (.getfield 149, 3)), (38, (.if_icmp .ge 38, 3)), (41, (.iload 5, 2)), (43, (.invokestatic 152, 3)), (46, (.istore 5, 2)), (48, (.aload_n 0, 1)), (49, (.getfield 18, 3)), (52, (.iload 7, 2)), (54, (.iload 5, 2)), (56, (.aload_n 0, 1)), (57, (.getfield 12, 3)), (60, (.getfield 70, 3)), (63, (.invokestatic 155, 3)), (66, (.invokevirtual 73, 3)), (69, (.pop, 1)), (70, (.iinc 7 1, 3)), (73, (.goto (-44), 3)), (76, (.aload_n 0, 1)), (77, (.getfield 18, 3)), (80, (.bipush 20, 2)), (82, (.invokevirtual 53, 3)), (85, (.iload 4, 2)), (87, (.iload_n 3, 1)), (88, (.ifCond .ne 13, 3)), (91, (.aload_n 0, 1)), (92, (.getfield 18, 3)), (95, (.invokevirtual 81, 3)), (98, (.goto 10, 3)), (101, (.aload_n 0, 1)), (102, (.getfield 18, 3)), (105, (.invokevirtual 158, 3)), (108, (.iadd, 1)), (109, (.istore 4, 2)), (111, (.iinc 6 1, 3)), (114, (.goto (-105), 3)), (117, (.iload 4, 2)), (119, (.ireturn, 1))]
set_option maxRecDepth 100000 in
theorem td_X1_termsByLot : tb_X1_termsByLot.all (fun q => decide (decode cX1_termsByLot q.1 = .ok q.2)) = true := by decide +kernel
def tb_X1_nextSeed : TB := [(0, (.iload_n 0, 1)), (1, (.ldc 161, 2)), (3, (.imul, 1)), (4, (.ldc 162, 2)), (6, (.iadd, 1)), (7, (.ireturn, 1))]
set_option maxRecDepth 100000 in
theorem td_X1_nextSeed : tb_X1_nextSeed.all (fun q => decide (decode cX1_nextSeed q.1 = .ok q.2)) = true := by decide +kernel
def tb_X1_drawBelow : TB := [(0, (.iload_n 1, 1)), (1, (.ifCond .le 16, 3)), (4, (.iload_n 0, 1)), (5, (.ldc 163, 2)), (7, (.iand, 1)), (8, (.sipush 256, 3)), (11, (.idiv, 1)), (12, (.iload_n 1, 1)), (13, (.irem, 1)), (14, (.goto 4, 3)), (17, (.iconst 0, 1)), (18, (.ireturn, 1))]
set_option maxRecDepth 100000 in
theorem td_X1_drawBelow : tb_X1_drawBelow.all (fun q => decide (decode cX1_drawBelow q.1 = .ok q.2)) = true := by decide +kernel
def tb_X2_become_0 : TB := [(0, (.aload_n 0, 1)), (1, (.aload_n 1, 1)), (2, (.getfield 42, 3)), (5, (.putfield 42, 3)), (8, (.aload_n 0, 1)), (9, (.aload_n 1, 1)), (10, (.getfield 46, 3)), (13, (.putfield 46, 3)), (16, (.aload_n 0, 1)), (17, (.aload_n 1, 1)), (18, (.getfield 49, 3)), (21, (.putfield 49, 3)), (24, (.aload_n 0, 1)), (25, (.aload_n 1, 1)), (26, (.getfield 52, 3)), (29, (.putfield 52, 3)), (32, (.aload_n 1, 1)), (33, (.getfield 9, 3)), (36, (.iconst 0, 1)), (37, (.aload_n 0, 1)), (38, (.getfield 9, 3)), (41, (.iconst 0, 1)), (42, (.iconst 5, 1)), (43, (.invokestatic 55, 3)), (46, (.aload_n 1, 1)), (47, (.getfield 15, 3)), (50, (.iconst 0, 1)), (51, (.aload_n 0, 1)), (52, (.getfield 15, 3)), (55, (.iconst 0, 1)), (56, (.iconst 5, 1)), (57, (.invokestatic 55, 3)), (60, (.aload_n 1, 1)), (61, (.getfield 18, 3)), (64, (.iconst 0, 1)), (65, (.aload_n 0, 1)), (66, (.getfield 18, 3)), (69, (.iconst 0, 1)), (70, (.iconst 5, 1)), (71, (.invokestatic 55, 3)), (74, (.aload_n 1, 1)), (75, (.getfield 21, 3)), (78, (.iconst 0, 1)), (79, (.aload_n 0, 1)), (80, (.getfield 21, 3)), (83, (.iconst 0, 1)), (84, (.iconst 5, 1)), (85, (.invokestatic 55, 3)), (88, (.aload_n 1, 1)), (89, (.getfield 24, 3)), (92, (.iconst 0, 1)), (93, (.aload_n 0, 1)), (94, (.getfield 24, 3)), (97, (.iconst 0, 1)), (98, (.bipush 10, 2)), (100, (.invokestatic 55, 3)), (103, (.aload_n 1, 1)), (104, (.getfield 27, 3)), (107, (.iconst 0, 1)), (108, (.aload_n 0, 1))]
set_option maxRecDepth 100000 in
theorem td_X2_become_0 : tb_X2_become_0.all (fun q => decide (decode cX2_become q.1 = .ok q.2)) = true := by decide +kernel
def tb_X2_become_1 : TB := [(109, (.getfield 27, 3)), (112, (.iconst 0, 1)), (113, (.bipush 10, 2)), (115, (.invokestatic 55, 3)), (118, (.aload_n 1, 1)), (119, (.getfield 30, 3)), (122, (.iconst 0, 1)), (123, (.aload_n 0, 1)), (124, (.getfield 30, 3)), (127, (.iconst 0, 1)), (128, (.bipush 10, 2)), (130, (.invokestatic 55, 3)), (133, (.aload_n 1, 1)), (134, (.getfield 33, 3)), (137, (.iconst 0, 1)), (138, (.aload_n 0, 1)), (139, (.getfield 33, 3)), (142, (.iconst 0, 1)), (143, (.bipush 20, 2)), (145, (.invokestatic 55, 3)), (148, (.return_, 1))]
set_option maxRecDepth 100000 in
theorem td_X2_become_1 : tb_X2_become_1.all (fun q => decide (decode cX2_become q.1 = .ok q.2)) = true := by decide +kernel
def tb_X2_become : TB := tb_X2_become_0 ++ (tb_X2_become_1)
theorem td_X2_become : tb_X2_become.all (fun q => decide (decode cX2_become q.1 = .ok q.2)) = true := by simp only [tb_X2_become, List.all_append, td_X2_become_0, td_X2_become_1, Bool.and_self]
def tb_X2_isPurpose : TB := [(0, (.iload_n 1, 1)), (1, (.ifCond .lt 20, 3)), (4, (.iload_n 1, 1)), (5, (.aload_n 0, 1)), (6, (.getfield 42, 3)), (9, (.if_icmp .ge 12, 3)), (12, (.iload_n 1, 1)), (13, (.iconst 5, 1)), (14, (.if_icmp .ge 7, 3)), (17, (.iconst 1, 1)), (18, (.goto 4, 3)), (21, (.iconst 0, 1)), (22, (.ireturn, 1))]
set_option maxRecDepth 100000 in
theorem td_X2_isPurpose : tb_X2_isPurpose.all (fun q => decide (decode cX2_isPurpose q.1 = .ok q.2)) = true := by decide +kernel
def tb_X2_isThing : TB := [(0, (.iload_n 1, 1)), (1, (.ifCond .lt 21, 3)), (4, (.iload_n 1, 1)), (5, (.aload_n 0, 1)), (6, (.getfield 46, 3)), (9, (.if_icmp .ge 13, 3)), (12, (.iload_n 1, 1)), (13, (.bipush 10, 2)), (15, (.if_icmp .ge 7, 3)), (18, (.iconst 1, 1)), (19, (.goto 4, 3)), (22, (.iconst 0, 1)), (23, (.ireturn, 1))]
set_option maxRecDepth 100000 in
theorem td_X2_isThing : tb_X2_isThing.all (fun q => decide (decode cX2_isThing q.1 = .ok q.2)) = true := by decide +kernel
def tb_X2_isUp : TB := [(0, (.iload_n 1, 1)), (1, (.ifCond .lt 33, 3)), (4, (.iload_n 1, 1)), (5, (.aload_n 0, 1)), (6, (.getfield 46, 3)), (9, (.if_icmp .ge 25, 3)), (12, (.iload_n 1, 1)), (13, (.bipush 10, 2)), (15, (.if_icmp .ge 19, 3)), (18, (.aload_n 0, 1)), (19, (.getfield 52, 3)), (22, (.iload_n 1, 1)), (23, (.iushr, 1)), (24, (.iconst 1, 1)), (25, (.iand, 1)), (26, (.iconst 1, 1)), (27, (.if_icmp .ne 7, 3)), (30, (.iconst 1, 1)), (31, (.goto 4, 3)), (34, (.iconst 0, 1)), (35, (.ireturn, 1))]
set_option maxRecDepth 100000 in
theorem td_X2_isUp : tb_X2_isUp.all (fun q => decide (decode cX2_isUp q.1 = .ok q.2)) = true := by decide +kernel
def tb_X2_isFreeFor : TB := [(0, (.iload_n 2, 1)), (1, (.invokestatic 61, 3)), (4, (.ifCond .eq 28, 3)), (7, (.aload_n 0, 1)), (8, (.getfield 33, 3)), (11, (.iload_n 2, 1)), (12, (.iaload, 1)), (13, (.bipush (-9), 2)), (15, (.if_icmp .eq 13, 3)), (18, (.aload_n 0, 1)), (19, (.getfield 33, 3)), (22, (.iload_n 2, 1)), (23, (.iaload, 1)), (24, (.iload_n 1, 1)), (25, (.if_icmp .ne 7, 3)), (28, (.iconst 1, 1)), (29, (.goto 4, 3)), (32, (.iconst 0, 1)), (33, (.ireturn, 1))]
set_option maxRecDepth 100000 in
theorem td_X2_isFreeFor : tb_X2_isFreeFor.all (fun q => decide (decode cX2_isFreeFor q.1 = .ok q.2)) = true := by decide +kernel
def tb_X2_standing : TB := [(0, (.aload_n 0, 1)), (1, (.getfield 52, 3)), (4, (.invokestatic 65, 3)), (7, (.ireturn, 1))]
set_option maxRecDepth 100000 in
theorem td_X2_standing : tb_X2_standing.all (fun q => decide (decode cX2_standing q.1 = .ok q.2)) = true := by decide +kernel
def tb_X2_spareOf : TB := [(0, (.aload_n 0, 1)), (1, (.iload_n 1, 1)), (2, (.invokevirtual 71, 3)), (5, (.ifCond .eq 19, 3)), (8, (.aload_n 0, 1)), (9, (.getfield 18, 3)), (12, (.iload_n 1, 1)), (13, (.iaload, 1)), (14, (.aload_n 0, 1)), (15, (.getfield 21, 3)), (18, (.iload_n 1, 1)), (19, (.iaload, 1)), (20, (.isub, 1)), (21, (.goto 4, 3)), (24, (.iconst 0, 1)), (25, (.ireturn, 1))]
set_option maxRecDepth 100000 in
theorem td_X2_spareOf : tb_X2_spareOf.all (fun q => decide (decode cX2_spareOf q.1 = .ok q.2)) = true := by decide +kernel
def tb_X2_allStrength : TB := [(0, (.iconst 0, 1)), (1, (.istore_n 1, 1)), (2, (.iconst 0, 1)), (3, (.istore_n 2, 1)), (4, (.iload_n 2, 1)), (5, (.aload_n 0, 1)), (6, (.getfield 42, 3)), (9, (.if_icmp .ge 23, 3)), (12, (.iload_n 2, 1)), (13, (.iconst 5, 1)), (14, (.if_icmp .ge 18, 3)), (17, (.iload_n 1, 1)), (18, (.aload_n 0, 1)), (19, (.getfield 18, 3)), (22, (.iload_n 2, 1)), (23, (.iaload, 1)), (24, (.iadd, 1)), (25, (.istore_n 1, 1)), (26, (.iinc 2 1, 3)), (29, (.goto (-25), 3)), (32, (.iload_n 1, 1)), (33, (.ireturn, 1))]
set_option maxRecDepth 100000 in
theorem td_X2_allStrength : tb_X2_allStrength.all (fun q => decide (decode cX2_allStrength q.1 = .ok q.2)) = true := by decide +kernel
def tb_X2_allLoad : TB := [(0, (.iconst 0, 1)), (1, (.istore_n 1, 1)), (2, (.iconst 0, 1)), (3, (.istore_n 2, 1)), (4, (.iload_n 2, 1)), (5, (.aload_n 0, 1)), (6, (.getfield 42, 3)), (9, (.if_icmp .ge 23, 3)), (12, (.iload_n 2, 1)), (13, (.iconst 5, 1)), (14, (.if_icmp .ge 18, 3)), (17, (.iload_n 1, 1)), (18, (.aload_n 0, 1)), (19, (.getfield 21, 3)), (22, (.iload_n 2, 1)), (23, (.iaload, 1)), (24, (.iadd, 1)), (25, (.istore_n 1, 1)), (26, (.iinc 2 1, 3)), (29, (.goto (-25), 3)), (32, (.iload_n 1, 1)), (33, (.ireturn, 1))]
set_option maxRecDepth 100000 in
theorem td_X2_allLoad : tb_X2_allLoad.all (fun q => decide (decode cX2_allLoad q.1 = .ok q.2)) = true := by decide +kernel
def tb_X2_addPurpose : TB := [(0, (.aload_n 0, 1)), (1, (.getfield 42, 3)), (4, (.iconst 5, 1)), (5, (.if_icmp .lt 5, 3)), (8, (.iconst 0, 1)), (9, (.ireturn, 1)), (10, (.aload_n 0, 1)), (11, (.getfield 9, 3)), (14, (.aload_n 0, 1)), (15, (.getfield 42, 3)), (18, (.iload_n 1, 1)), (19, (.iastore, 1)), (20, (.aload_n 0, 1)), (21, (.getfield 15, 3)), (24, (.aload_n 0, 1)), (25, (.getfield 42, 3)), (28, (.iload_n 2, 1)), (29, (.iastore, 1)), (30, (.aload_n 0, 1)), (31, (.getfield 18, 3)), (34, (.aload_n 0, 1)), (35, (.getfield 42, 3)), (38, (.iload_n 3, 1)), (39, (.iastore, 1)), (40, (.aload_n 0, 1)), (41, (.getfield 21, 3)), (44, (.aload_n 0, 1)), (45, (.getfield 42, 3)), (48, (.iconst 0, 1)), (49, (.iastore, 1)), (50, (.aload_n 0, 1)), (51, (.dup, 1)), (52, (.getfield 42, 3)), (55, (.iconst 1, 1)), (56, (.iadd, 1)), (57, (.putfield 42, 3)), (60, (.iconst 1, 1)), (61, (.ireturn, 1))]
set_option maxRecDepth 100000 in
theorem td_X2_addPurpose : tb_X2_addPurpose.all (fun q => decide (decode cX2_addPurpose q.1 = .ok q.2)) = true := by decide +kernel
def tb_X2_addThing : TB := [(0, (.aload_n 0, 1)), (1, (.getfield 46, 3)), (4, (.bipush 10, 2)), (6, (.if_icmp .ge 26, 3)), (9, (.iload_n 1, 1)), (10, (.iconst 1, 1)), (11, (.if_icmp .lt 21, 3)), (14, (.aload_n 0, 1)), (15, (.iload_n 3, 1)), (16, (.invokevirtual 71, 3)), (19, (.ifCond .eq 13, 3)), (22, (.aload_n 0, 1)), (23, (.bipush (-9), 2)), (25, (.iload_n 2, 1)), (26, (.invokevirtual 74, 3)), (29, (.ifCond .ne 5, 3)), (32, (.iconst 0, 1)), (33, (.ireturn, 1)), (34, (.aload_n 0, 1)), (35, (.getfield 46, 3)), (38, (.istore 4, 2)), (40, (.aload_n 0, 1)), (41, (.dup, 1)), (42, (.getfield 46, 3)), (45, (.iconst 1, 1)), (46, (.iadd, 1)), (47, (.putfield 46, 3)), (50, (.aload_n 0, 1)), (51, (.getfield 24, 3)), (54, (.iload 4, 2)), (56, (.iload_n 1, 1)), (57, (.iastore, 1)), (58, (.aload_n 0, 1)), (59, (.getfield 27, 3)), (62, (.iload 4, 2)), (64, (.iload_n 2, 1)), (65, (.iastore, 1)), (66, (.aload_n 0, 1)), (67, (.getfield 33, 3)), (70, (.iload_n 2, 1)), (71, (.iload 4, 2)), (73, (.iastore, 1)), (74, (.aload_n 0, 1)), (75, (.getfield 30, 3)), (78, (.iload 4, 2)), (80, (.iload_n 3, 1)), (81, (.iastore, 1)), (82, (.aload_n 0, 1)), (83, (.iload 4, 2)), (85, (.invokevirtual 78, 3)), (88, (.pop, 1)), (89, (.iconst 1, 1)), (90, (.ireturn, 1))]
set_option maxRecDepth 100000 in
theorem td_X2_addThing : tb_X2_addThing.all (fun q => decide (decode cX2_addThing q.1 = .ok q.2)) = true := by decide +kernel
def tb_X2_leanOn : TB := [(0, (.aload_n 0, 1)), (1, (.iload_n 1, 1)), (2, (.invokevirtual 81, 3)), (5, (.ifCond .eq 11, 3)), (8, (.aload_n 0, 1)), (9, (.iload_n 2, 1)), (10, (.invokevirtual 71, 3)), (13, (.ifCond .ne 5, 3)), (16, (.iconst 0, 1)), (17, (.ireturn, 1)), (18, (.aload_n 0, 1)), (19, (.iload_n 1, 1)), (20, (.invokevirtual 84, 3)), (23, (.ifCond .eq 9, 3)), (26, (.aload_n 0, 1)), (27, (.iload_n 1, 1)), (28, (.iconst (-1), 1)), (29, (.invokevirtual 87, 3)), (32, (.aload_n 0, 1)), (33, (.getfield 30, 3)), (36, (.iload_n 1, 1)), (37, (.iload_n 2, 1)), (38, (.iastore, 1)), (39, (.aload_n 0, 1)), (40, (.iload_n 1, 1)), (41, (.invokevirtual 84, 3)), (44, (.ifCond .eq 9, 3)), (47, (.aload_n 0, 1)), (48, (.iload_n 1, 1)), (49, (.iconst 1, 1)), (50, (.invokevirtual 87, 3)), (53, (.iconst 1, 1)), (54, (.ireturn, 1))]
set_option maxRecDepth 100000 in
theorem td_X2_leanOn : tb_X2_leanOn.all (fun q => decide (decode cX2_leanOn q.1 = .ok q.2)) = true := by decide +kernel
def tb_X2_raise : TB := [(0, (.aload_n 0, 1)), (1, (.iload_n 1, 1)), (2, (.invokevirtual 81, 3)), (5, (.ifCond .eq 29, 3)), (8, (.aload_n 0, 1)), (9, (.iload_n 1, 1)), (10, (.invokevirtual 84, 3)), (13, (.ifCond .ne 21, 3)), (16, (.aload_n 0, 1)), (17, (.dup, 1)), (18, (.getfield 52, 3)), (21, (.iconst 1, 1)), (22, (.iload_n 1, 1)), (23, (.ishl, 1)), (24, (.ior, 1)), (25, (.putfield 52, 3)), (28, (.aload_n 0, 1)), (29, (.iload_n 1, 1)), (30, (.iconst 1, 1)), (31, (.invokevirtual 87, 3)), (34, (.aload_n 0, 1)), (35, (.iload_n 1, 1)), (36, (.invokevirtual 81, 3)), (39, (.ireturn, 1))]
set_option maxRecDepth 100000 in
theorem td_X2_raise : tb_X2_raise.all (fun q => decide (decode cX2_raise q.1 = .ok q.2)) = true := by decide +kernel
def tb_X2_strengthen : TB := [(0, (.aload_n 0, 1)), (1, (.iload_n 1, 1)), (2, (.invokevirtual 71, 3)), (5, (.ifCond .ne 5, 3)), (8, (.iconst 0, 1)), (9, (.ireturn, 1)), (10, (.aload_n 0, 1)), (11, (.getfield 18, 3)), (14, (.iload_n 1, 1)), (15, (.iload_n 2, 1)), (16, (.iastore, 1)), (17, (.iconst 1, 1)), (18, (.ireturn, 1))]
set_option maxRecDepth 100000 in
theorem td_X2_strengthen : tb_X2_strengthen.all (fun q => decide (decode cX2_strengthen q.1 = .ok q.2)) = true := by decide +kernel
def tb_X2_moveTo : TB := [(0, (.aload_n 0, 1)), (1, (.iload_n 1, 1)), (2, (.invokevirtual 81, 3)), (5, (.ifCond .eq 51, 3)), (8, (.aload_n 0, 1)), (9, (.iload_n 1, 1)), (10, (.iload_n 2, 1)), (11, (.invokevirtual 74, 3)), (14, (.ifCond .eq 42, 3)), (17, (.aload_n 0, 1)), (18, (.getfield 27, 3)), (21, (.iload_n 1, 1)), (22, (.iaload, 1)), (23, (.invokestatic 61, 3)), (26, (.ifCond .eq 30, 3)), (29, (.aload_n 0, 1)), (30, (.getfield 33, 3)), (33, (.aload_n 0, 1)), (34, (.getfield 27, 3)), (37, (.iload_n 1, 1)), (38, (.iaload, 1)), (39, (.bipush (-9), 2)), (41, (.iastore, 1)), (42, (.aload_n 0, 1)), (43, (.getfield 27, 3)), (46, (.iload_n 1, 1)), (47, (.iload_n 2, 1)), (48, (.iastore, 1)), (49, (.aload_n 0, 1)), (50, (.getfield 33, 3)), (53, (.iload_n 2, 1)), (54, (.iload_n 1, 1)), (55, (.iastore, 1)), (56, (.return_, 1))]
set_option maxRecDepth 100000 in
theorem td_X2_moveTo : tb_X2_moveTo.all (fun q => decide (decode cX2_moveTo q.1 = .ok q.2)) = true := by decide +kernel
def tb_X2_weigh : TB := [(0, (.iload_n 1, 1)), (1, (.ifCond .lt 9, 3)), (4, (.iload_n 1, 1)), (5, (.bipush 10, 2)), (7, (.if_icmp .lt 4, 3)), (10, (.return_, 1)), (11, (.aload_n 0, 1)), (12, (.getfield 30, 3)), (15, (.iload_n 1, 1)), (16, (.iaload, 1)), (17, (.istore_n 3, 1)), (18, (.iload_n 3, 1)), (19, (.ifCond .lt 25, 3)), (22, (.iload_n 3, 1)), (23, (.iconst 5, 1)), (24, (.if_icmp .ge 20, 3)), (27, (.aload_n 0, 1)), (28, (.getfield 21, 3)), (31, (.iload_n 3, 1)), (32, (.dup2, 1)), (33, (.iaload, 1)), (34, (.iload_n 2, 1)), (35, (.aload_n 0, 1)), (36, (.getfield 24, 3)), (39, (.iload_n 1, 1)), (40, (.iaload, 1)), (41, (.imul, 1)), (42, (.iadd, 1)), (43, (.iastore, 1)), (44, (.return_, 1))]
set_option maxRecDepth 100000 in
theorem td_X2_weigh : tb_X2_weigh.all (fun q => decide (decode cX2_weigh q.1 = .ok q.2)) = true := by decide +kernel
def tb_X2_passDays : TB := [(0, (.iconst 0, 1)), (1, (.istore_n 2, 1)), (2, (.iload_n 2, 1)), (3, (.iload_n 1, 1)), (4, (.if_icmp .ge 13, 3)), (7, (.aload_n 0, 1)), (8, (.invokevirtual 91, 3)), (11, (.iinc 2 1, 3)), (14, (.goto (-12), 3)), (17, (.return_, 1))]
set_option maxRecDepth 100000 in
theorem td_X2_passDays : tb_X2_passDays.all (fun q => decide (decode cX2_passDays q.1 = .ok q.2)) = true := by decide +kernel
def tb_X2_passDay_0 : TB := [(0, (.aload_n 0, 1)), (1, (.dup, 1)), (2, (.getfield 49, 3)), (5, (.iconst 1, 1)), (6, (.iadd, 1)), (7, (.putfield 49, 3)), (10, (.iconst 0, 1)), (11, (.istore_n 1, 1)), (12, (.iload_n 1, 1)), (13, (.aload_n 0, 1)), (14, (.getfield 42, 3)), (17, (.if_icmp .ge 64, 3)), (20, (.iload_n 1, 1)), (21, (.iconst 5, 1)), (22, (.if_icmp .ge 59, 3)), (25, (.aload_n 0, 1)), (26, (.getfield 9, 3)), (29, (.iload_n 1, 1)), (30, (.iaload, 1)), (31, (.aload_n 0, 1)), (32, (.getfield 15, 3)), (35, (.iload_n 1, 1)), (36, (.iaload, 1)), (37, (.aload_n 0, 1)), (38, (.getfield 18, 3)), (41, (.iload_n 1, 1)), (42, (.iaload, 1)), (43, (.aload_n 0, 1)), (44, (.getfield 21, 3)), (47, (.iload_n 1, 1)), (48, (.iaload, 1)), (49, (.aload_n 0, 1)), (50, (.getfield 49, 3)), (53, (.invokestatic 94, 3)), (56, (.istore_n 2, 1)), (57, (.aload_n 0, 1)), (58, (.getfield 18, 3)), (61, (.iload_n 1, 1)), (62, (.iconst 0, 1)), (63, (.aload_n 0, 1)), (64, (.getfield 18, 3)), (67, (.iload_n 1, 1)), (68, (.iaload, 1)), (69, (.iload_n 2, 1)), (70, (.isub, 1)), (71, (.invokestatic 100, 3)), (74, (.iastore, 1)), (75, (.iinc 1 1, 3)), (78, (.goto (-66), 3)), (81, (.iconst 0, 1)), (82, (.istore_n 1, 1)), (83, (.iload_n 1, 1)), (84, (.aload_n 0, 1)), (85, (.getfield 42, 3)), (88, (.if_icmp .ge 32, 3)), (91, (.iload_n 1, 1)), (92, (.iconst 5, 1)), (93, (.if_icmp .ge 27, 3)), (96, (.aload_n 0, 1)), (97, (.iload_n 1, 1))]
set_option maxRecDepth 100000 in
theorem td_X2_passDay_0 : tb_X2_passDay_0.all (fun q => decide (decode cX2_passDay q.1 = .ok q.2)) = true := by decide +kernel
def tb_X2_passDay_1 : TB := [(98, (.invokevirtual 106, 3)), (101, (.ifCond .ge 13, 3)), (104, (.aload_n 0, 1)), (105, (.aload_n 0, 1)), (106, (.iload_n 1, 1)), (107, (.invokevirtual 109, 3)), (110, (.invokevirtual 112, 3)), (113, (.pop, 1)), (114, (.iinc 1 1, 3)), (117, (.goto (-34), 3)), (120, (.return_, 1))]
set_option maxRecDepth 100000 in
theorem td_X2_passDay_1 : tb_X2_passDay_1.all (fun q => decide (decode cX2_passDay q.1 = .ok q.2)) = true := by decide +kernel
def tb_X2_passDay : TB := tb_X2_passDay_0 ++ (tb_X2_passDay_1)
theorem td_X2_passDay : tb_X2_passDay.all (fun q => decide (decode cX2_passDay q.1 = .ok q.2)) = true := by simp only [tb_X2_passDay, List.all_append, td_X2_passDay_0, td_X2_passDay_1, Bool.and_self]
def tb_X2_heaviestOn : TB := [(0, (.bipush (-9), 2)), (2, (.istore_n 2, 1)), (3, (.iconst 0, 1)), (4, (.istore_n 3, 1)), (5, (.iconst 0, 1)), (6, (.istore 4, 2)), (8, (.iload 4, 2)), (10, (.bipush 20, 2)), (12, (.if_icmp .ge 60, 3)), (15, (.aload_n 0, 1)), (16, (.getfield 33, 3)), (19, (.iload 4, 2)), (21, (.iaload, 1)), (22, (.istore 5, 2)), (24, (.aload_n 0, 1)), (25, (.iload 5, 2)), (27, (.invokevirtual 84, 3)), (30, (.ifCond .eq 36, 3)), (33, (.aload_n 0, 1)), (34, (.getfield 30, 3)), (37, (.iload 5, 2)), (39, (.iaload, 1)), (40, (.iload_n 1, 1)), (41, (.if_icmp .ne 25, 3)), (44, (.aload_n 0, 1)), (45, (.getfield 24, 3)), (48, (.iload 5, 2)), (50, (.iaload, 1)), (51, (.iload_n 3, 1)), (52, (.if_icmp .le 14, 3)), (55, (.iload 5, 2)), (57, (.istore_n 2, 1)), (58, (.aload_n 0, 1)), (59, (.getfield 24, 3)), (62, (.iload 5, 2)), (64, (.iaload, 1)), (65, (.istore_n 3, 1)), (66, (.iinc 4 1, 3)), (69, (.goto (-61), 3)), (72, (.iload_n 2, 1)), (73, (.ireturn, 1))]
set_option maxRecDepth 100000 in
theorem td_X2_heaviestOn : tb_X2_heaviestOn.all (fun q => decide (decode cX2_heaviestOn q.1 = .ok q.2)) = true := by decide +kernel
def tb_X2_topple : TB := [(0, (.aload_n 0, 1)), (1, (.iload_n 1, 1)), (2, (.iconst 0, 1)), (3, (.invokevirtual 115, 3)), (6, (.istore_n 2, 1)), (7, (.iconst 0, 1)), (8, (.istore_n 3, 1)), (9, (.iload_n 3, 1)), (10, (.aload_n 0, 1)), (11, (.getfield 46, 3)), (14, (.if_icmp .ge 29, 3)), (17, (.iload_n 3, 1)), (18, (.bipush 10, 2)), (20, (.if_icmp .ge 23, 3)), (23, (.iload_n 2, 1)), (24, (.iload_n 3, 1)), (25, (.invokestatic 118, 3)), (28, (.ifCond .eq 9, 3)), (31, (.aload_n 0, 1)), (32, (.iload_n 3, 1)), (33, (.iconst (-1), 1)), (34, (.invokevirtual 87, 3)), (37, (.iinc 3 1, 3)), (40, (.goto (-31), 3)), (43, (.aload_n 0, 1)), (44, (.dup, 1)), (45, (.getfield 52, 3)), (48, (.iload_n 2, 1)), (49, (.iconst (-1), 1)), (50, (.ixor, 1)), (51, (.iand, 1)), (52, (.putfield 52, 3)), (55, (.iload_n 2, 1)), (56, (.invokestatic 65, 3)), (59, (.ireturn, 1))]
set_option maxRecDepth 100000 in
theorem td_X2_topple : tb_X2_topple.all (fun q => decide (decode cX2_topple q.1 = .ok q.2)) = true := by decide +kernel
def tb_X2_felledBy_0 : TB := [(0, (.iload_n 1, 1)), (1, (.ifCond .lt 17, 3)), (4, (.iload_n 1, 1)), (5, (.aload_n 0, 1)), (6, (.getfield 46, 3)), (9, (.if_icmp .ge 9, 3)), (12, (.iload_n 1, 1)), (13, (.bipush 10, 2)), (15, (.if_icmp .lt 5, 3)), (18, (.iconst 0, 1)), (19, (.ireturn, 1)), (20, (.aload_n 0, 1)), (21, (.getfield 52, 3)), (24, (.iload_n 2, 1)), (25, (.iconst (-1), 1)), (26, (.ixor, 1)), (27, (.iand, 1)), (28, (.istore_n 3, 1)), (29, (.iconst 0, 1)), (30, (.istore 4, 2)), (32, (.aload_n 0, 1)), (33, (.getfield 24, 3)), (36, (.iload_n 1, 1)), (37, (.iaload, 1)), (38, (.istore 5, 2)), (40, (.aload_n 0, 1)), (41, (.getfield 27, 3)), (44, (.iload_n 1, 1)), (45, (.iaload, 1)), (46, (.istore 6, 2)), (48, (.iload 6, 2)), (50, (.ifCond .lt 79, 3)), (53, (.iload 6, 2)), (55, (.bipush 20, 2)), (57, (.if_icmp .ge 72, 3)), (60, (.aload_n 0, 1)), (61, (.getfield 33, 3)), (64, (.iload 6, 2)), (66, (.iaload, 1)), (67, (.istore 7, 2)), (69, (.iload 7, 2)), (71, (.ifCond .lt 58, 3)), (74, (.iload 7, 2)), (76, (.bipush 10, 2)), (78, (.if_icmp .ge 51, 3)), (81, (.iload_n 3, 1)), (82, (.iload 7, 2)), (84, (.iushr, 1)), (85, (.iconst 1, 1)), (86, (.iand, 1)), (87, (.ifCond .eq 42, 3)), (90, (.aload_n 0, 1)), (91, (.getfield 24, 3)), (94, (.iload 7, 2)), (96, (.iaload, 1)), (97, (.iload 5, 2)), (99, (.if_icmp .le 6, 3)), (102, (.goto 27, 3)), (105, (.iload 4, 2)), (107, (.iconst 1, 1))]
set_option maxRecDepth 100000 in
theorem td_X2_felledBy_0 : tb_X2_felledBy_0.all (fun q => decide (decode cX2_felledBy q.1 = .ok q.2)) = true := by decide +kernel
def tb_X2_felledBy_1 : TB := [(108, (.iload 7, 2)), (110, (.ishl, 1)), (111, (.ior, 1)), (112, (.istore 4, 2)), (114, (.aload_n 0, 1)), (115, (.getfield 24, 3)), (118, (.iload 7, 2)), (120, (.iaload, 1)), (121, (.istore 5, 2)), (123, (.iinc 6 1, 3)), (126, (.goto (-78), 3)), (129, (.iload 4, 2)), (131, (.ireturn, 1))]
set_option maxRecDepth 100000 in
theorem td_X2_felledBy_1 : tb_X2_felledBy_1.all (fun q => decide (decode cX2_felledBy q.1 = .ok q.2)) = true := by decide +kernel
def tb_X2_felledBy : TB := tb_X2_felledBy_0 ++ (tb_X2_felledBy_1)
theorem td_X2_felledBy : tb_X2_felledBy.all (fun q => decide (decode cX2_felledBy q.1 = .ok q.2)) = true := by simp only [tb_X2_felledBy, List.all_append, td_X2_felledBy_0, td_X2_felledBy_1, Bool.and_self]
def tb_X2_leastPlaced : TB := [(0, (.iconst 0, 1)), (1, (.istore_n 2, 1)), (2, (.iload_n 2, 1)), (3, (.bipush 20, 2)), (5, (.if_icmp .ge 29, 3)), (8, (.iload_n 1, 1)), (9, (.aload_n 0, 1)), (10, (.getfield 33, 3)), (13, (.iload_n 2, 1)), (14, (.iaload, 1)), (15, (.invokestatic 118, 3)), (18, (.ifCond .eq 10, 3)), (21, (.aload_n 0, 1)), (22, (.getfield 33, 3)), (25, (.iload_n 2, 1)), (26, (.iaload, 1)), (27, (.ireturn, 1)), (28, (.iinc 2 1, 3)), (31, (.goto (-29), 3)), (34, (.bipush (-9), 2)), (36, (.ireturn, 1))]
set_option maxRecDepth 100000 in
theorem td_X2_leastPlaced : tb_X2_leastPlaced.all (fun q => decide (decode cX2_leastPlaced q.1 = .ok q.2)) = true := by decide +kernel
def tb_X2_leastPlacedWithoutSpare : TB := [(0, (.iconst 0, 1)), (1, (.istore_n 1, 1)), (2, (.iload_n 1, 1)), (3, (.bipush 20, 2)), (5, (.if_icmp .ge 39, 3)), (8, (.aload_n 0, 1)), (9, (.getfield 33, 3)), (12, (.iload_n 1, 1)), (13, (.iaload, 1)), (14, (.istore_n 2, 1)), (15, (.aload_n 0, 1)), (16, (.iload_n 2, 1)), (17, (.invokevirtual 84, 3)), (20, (.ifCond .eq 18, 3)), (23, (.aload_n 0, 1)), (24, (.aload_n 0, 1)), (25, (.getfield 30, 3)), (28, (.iload_n 2, 1)), (29, (.iaload, 1)), (30, (.invokevirtual 106, 3)), (33, (.ifCond .gt 5, 3)), (36, (.iload_n 2, 1)), (37, (.ireturn, 1)), (38, (.iinc 1 1, 3)), (41, (.goto (-39), 3)), (44, (.bipush (-9), 2)), (46, (.ireturn, 1))]
set_option maxRecDepth 100000 in
theorem td_X2_leastPlacedWithoutSpare : tb_X2_leastPlacedWithoutSpare.all (fun q => decide (decode cX2_leastPlacedWithoutSpare q.1 = .ok q.2)) = true := by decide +kernel
def tb_X2_worstPush : TB := [(0, (.bipush (-9), 2)), (2, (.istore_n 1, 1)), (3, (.iconst 0, 1)), (4, (.istore_n 2, 1)), (5, (.iconst 0, 1)), (6, (.istore_n 3, 1)), (7, (.iload_n 3, 1)), (8, (.bipush 20, 2)), (10, (.if_icmp .ge 54, 3)), (13, (.aload_n 0, 1)), (14, (.getfield 33, 3)), (17, (.iload_n 3, 1)), (18, (.iaload, 1)), (19, (.istore 4, 2)), (21, (.aload_n 0, 1)), (22, (.iload 4, 2)), (24, (.invokevirtual 84, 3)), (27, (.ifCond .eq 16, 3)), (30, (.aload_n 0, 1)), (31, (.iload 4, 2)), (33, (.iconst 0, 1)), (34, (.invokevirtual 115, 3)), (37, (.invokestatic 65, 3)), (40, (.goto 4, 3)), (43, (.iconst 0, 1)), (44, (.istore 5, 2)), (46, (.iload 5, 2)), (48, (.iload_n 2, 1)), (49, (.if_icmp .le 9, 3)), (52, (.iload 4, 2)), (54, (.istore_n 1, 1)), (55, (.iload 5, 2)), (57, (.istore_n 2, 1)), (58, (.iinc 3 1, 3)), (61, (.goto (-54), 3)), (64, (.iload_n 1, 1)), (65, (.ireturn, 1))]
set_option maxRecDepth 100000 in
theorem td_X2_worstPush : tb_X2_worstPush.all (fun q => decide (decode cX2_worstPush q.1 = .ok q.2)) = true := by decide +kernel
def tb_X2_gapBehind : TB := [(0, (.bipush (-9), 2)), (2, (.istore_n 2, 1)), (3, (.aload_n 0, 1)), (4, (.iload_n 1, 1)), (5, (.iconst 0, 1)), (6, (.invokevirtual 115, 3)), (9, (.invokestatic 65, 3)), (12, (.iconst 1, 1)), (13, (.isub, 1)), (14, (.istore_n 3, 1)), (15, (.iconst 0, 1)), (16, (.istore 4, 2)), (18, (.iload 4, 2)), (20, (.aload_n 0, 1)), (21, (.getfield 46, 3)), (24, (.if_icmp .ge 57, 3)), (27, (.iload 4, 2)), (29, (.bipush 10, 2)), (31, (.if_icmp .ge 50, 3)), (34, (.iload 4, 2)), (36, (.iload_n 1, 1)), (37, (.if_icmp .eq 38, 3)), (40, (.aload_n 0, 1)), (41, (.iload 4, 2)), (43, (.invokevirtual 84, 3)), (46, (.ifCond .eq 29, 3)), (49, (.aload_n 0, 1)), (50, (.iload_n 1, 1)), (51, (.iconst 1, 1)), (52, (.iload 4, 2)), (54, (.ishl, 1)), (55, (.invokevirtual 115, 3)), (58, (.invokestatic 65, 3)), (61, (.istore 5, 2)), (63, (.iload 5, 2)), (65, (.iload_n 3, 1)), (66, (.if_icmp .ge 9, 3)), (69, (.iload 4, 2)), (71, (.istore_n 2, 1)), (72, (.iload 5, 2)), (74, (.istore_n 3, 1)), (75, (.iinc 4 1, 3)), (78, (.goto (-60), 3)), (81, (.iload_n 2, 1)), (82, (.ireturn, 1))]
set_option maxRecDepth 100000 in
theorem td_X2_gapBehind : tb_X2_gapBehind.all (fun q => decide (decode cX2_gapBehind q.1 = .ok q.2)) = true := by decide +kernel
def tb_X2_besideFrom : TB := [(0, (.iconst 0, 1)), (1, (.istore_n 2, 1)), (2, (.iload_n 1, 1)), (3, (.istore_n 3, 1)), (4, (.iload_n 3, 1)), (5, (.ifCond .lt 31, 3)), (8, (.iload_n 3, 1)), (9, (.bipush 20, 2)), (11, (.if_icmp .ge 25, 3)), (14, (.aload_n 0, 1)), (15, (.aload_n 0, 1)), (16, (.getfield 33, 3)), (19, (.iload_n 3, 1)), (20, (.iaload, 1)), (21, (.invokevirtual 84, 3)), (24, (.ifCond .eq 12, 3)), (27, (.iinc 2 1, 3)), (30, (.iinc 3 1, 3)), (33, (.goto (-29), 3)), (36, (.iload_n 2, 1)), (37, (.ireturn, 1))]
set_option maxRecDepth 100000 in
theorem td_X2_besideFrom : tb_X2_besideFrom.all (fun q => decide (decode cX2_besideFrom q.1 = .ok q.2)) = true := by decide +kernel
def tb_X2_longestFrom : TB := [(0, (.bipush (-9), 2)), (2, (.istore_n 1, 1)), (3, (.iconst 0, 1)), (4, (.istore_n 2, 1)), (5, (.iconst 0, 1)), (6, (.istore_n 3, 1)), (7, (.iload_n 3, 1)), (8, (.bipush 20, 2)), (10, (.if_icmp .ge 27, 3)), (13, (.aload_n 0, 1)), (14, (.iload_n 3, 1)), (15, (.invokevirtual 121, 3)), (18, (.istore 4, 2)), (20, (.iload 4, 2)), (22, (.iload_n 2, 1)), (23, (.if_icmp .le 8, 3)), (26, (.iload_n 3, 1)), (27, (.istore_n 1, 1)), (28, (.iload 4, 2)), (30, (.istore_n 2, 1)), (31, (.iinc 3 1, 3)), (34, (.goto (-27), 3)), (37, (.iload_n 1, 1)), (38, (.ireturn, 1))]
set_option maxRecDepth 100000 in
theorem td_X2_longestFrom : tb_X2_longestFrom.all (fun q => decide (decode cX2_longestFrom q.1 = .ok q.2)) = true := by decide +kernel
def tb_X2_mostWithin : TB := [(0, (.iconst 0, 1)), (1, (.istore_n 2, 1)), (2, (.iconst 0, 1)), (3, (.istore_n 3, 1)), (4, (.iconst 0, 1)), (5, (.istore 4, 2)), (7, (.iload 4, 2)), (9, (.sipush 1024, 3)), (12, (.if_icmp .ge 58, 3)), (15, (.iload 4, 2)), (17, (.aload_n 0, 1)), (18, (.getfield 52, 3)), (21, (.if_icmp .gt 49, 3)), (24, (.iload 4, 2)), (26, (.aload_n 0, 1)), (27, (.getfield 52, 3)), (30, (.iconst (-1), 1)), (31, (.ixor, 1)), (32, (.iand, 1)), (33, (.ifCond .ne 31, 3)), (36, (.iload 4, 2)), (38, (.invokestatic 65, 3)), (41, (.iload_n 3, 1)), (42, (.if_icmp .le 22, 3)), (45, (.aload_n 0, 1)), (46, (.iload 4, 2)), (48, (.invokevirtual 124, 3)), (51, (.iload_n 1, 1)), (52, (.if_icmp .gt 12, 3)), (55, (.iload 4, 2)), (57, (.istore_n 2, 1)), (58, (.iload 4, 2)), (60, (.invokestatic 65, 3)), (63, (.istore_n 3, 1)), (64, (.iinc 4 1, 3)), (67, (.goto (-60), 3)), (70, (.iload_n 2, 1)), (71, (.ireturn, 1))]
set_option maxRecDepth 100000 in
theorem td_X2_mostWithin : tb_X2_mostWithin.all (fun q => decide (decode cX2_mostWithin q.1 = .ok q.2)) = true := by decide +kernel
def tb_X2_weightOf : TB := [(0, (.iconst 0, 1)), (1, (.istore_n 2, 1)), (2, (.iconst 0, 1)), (3, (.istore_n 3, 1)), (4, (.iload_n 3, 1)), (5, (.aload_n 0, 1)), (6, (.getfield 46, 3)), (9, (.if_icmp .ge 32, 3)), (12, (.iload_n 3, 1)), (13, (.bipush 10, 2)), (15, (.if_icmp .ge 26, 3)), (18, (.iload_n 1, 1)), (19, (.iload_n 3, 1)), (20, (.invokestatic 118, 3)), (23, (.ifCond .eq 12, 3)), (26, (.iload_n 2, 1)), (27, (.aload_n 0, 1)), (28, (.getfield 24, 3)), (31, (.iload_n 3, 1)), (32, (.iaload, 1)), (33, (.iadd, 1)), (34, (.istore_n 2, 1)), (35, (.iinc 3 1, 3)), (38, (.goto (-34), 3)), (41, (.iload_n 2, 1)), (42, (.ireturn, 1))]
set_option maxRecDepth 100000 in
theorem td_X2_weightOf : tb_X2_weightOf.all (fun q => decide (decode cX2_weightOf q.1 = .ok q.2)) = true := by decide +kernel
def tb_X3_by : TB := [(0, (.iload_n 1, 1)), (1, (.iload 4, 2)), (3, (.invokestatic 7, 3)), (6, (.istore 5, 2)), (8, (.iload_n 2, 1)), (9, (.bipush 50, 2)), (11, (.if_icmp .lt 7, 3)), (14, (.iconst 0, 1)), (15, (.goto 5, 3)), (18, (.iload 5, 2)), (20, (.istore 6, 2)), (22, (.iconst 1, 1)), (23, (.iload_n 1, 1)), (24, (.iadd, 1)), (25, (.istore 7, 2)), (27, (.iload_n 0, 1)), (28, (.tableswitch 65 1 5 #[36, 39, 42, 49, 52], 36)), (64, (.iload 5, 2)), (66, (.ireturn, 1)), (67, (.iload 6, 2)), (69, (.ireturn, 1)), (70, (.iload 6, 2)), (72, (.iload_n 1, 1)), (73, (.iconst 3, 1)), (74, (.idiv, 1)), (75, (.iadd, 1)), (76, (.ireturn, 1)), (77, (.iload 7, 2)), (79, (.ireturn, 1)), (80, (.iload_n 3, 1)), (81, (.ifCond .le 10, 3)), (84, (.iconst 2, 1)), (85, (.iload 7, 2)), (87, (.imul, 1)), (88, (.goto 4, 3)), (91, (.iconst 0, 1)), (92, (.ireturn, 1)), (93, (.iconst 1, 1)), (94, (.ireturn, 1))]
set_option maxRecDepth 100000 in
theorem td_X3_by : tb_X3_by.all (fun q => decide (decode cX3_by q.1 = .ok q.2)) = true := by decide +kernel
def tb_X3_ofHabit : TB := [(0, (.iload_n 0, 1)), (1, (.iconst 1, 1)), (2, (.iadd, 1)), (3, (.istore_n 2, 1)), (4, (.iload_n 2, 1)), (5, (.ifCond .le 13, 3)), (8, (.iload_n 1, 1)), (9, (.iload_n 2, 1)), (10, (.irem, 1)), (11, (.ifCond .ne 7, 3)), (14, (.iconst 1, 1)), (15, (.goto 4, 3)), (18, (.iconst 0, 1)), (19, (.ireturn, 1))]
set_option maxRecDepth 100000 in
theorem td_X3_ofHabit : tb_X3_ofHabit.all (fun q => decide (decode cX3_ofHabit q.1 = .ok q.2)) = true := by decide +kernel
end
section
def tb_X4_letter : TB := [(0, (.iload_n 1, 1)), (1, (.ifCond .ge 9, 3)), (4, (.aload_n 0, 1)), (5, (.iconst 4, 1)), (6, (.invokevirtual 49, 3)), (9, (.ireturn, 1)), (10, (.iload_n 1, 1)), (11, (.sipush 255, 3)), (14, (.if_icmp .gt 15, 3)), (17, (.aload_n 0, 1)), (18, (.getfield 24, 3)), (21, (.getfield 53, 3)), (24, (.bipush 96, 2)), (26, (.if_icmp .lt 10, 3)), (29, (.aload_n 0, 1)), (30, (.bipush 6, 2)), (32, (.invokevirtual 49, 3)), (35, (.ireturn, 1)), (36, (.aload_n 0, 1)), (37, (.getfield 24, 3)), (40, (.iload_n 1, 1)), (41, (.invokevirtual 56, 3)), (44, (.aload_n 0, 1)), (45, (.getfield 24, 3)), (48, (.getfield 53, 3)), (51, (.ireturn, 1))]
set_option maxRecDepth 100000 in
theorem td_X4_letter : tb_X4_letter.all (fun q => decide (decode cX4_letter q.1 = .ok q.2)) = true := by decide +kernel
def tb_X4_rack : TB := [(0, (.aload_n 0, 1)), (1, (.getfield 24, 3)), (4, (.invokevirtual 60, 3)), (7, (.istore_n 1, 1)), (8, (.iload_n 1, 1)), (9, (.bipush (-9), 2)), (11, (.if_icmp .ne 17, 3)), (14, (.aload_n 0, 1)), (15, (.getfield 10, 3)), (18, (.aload_n 0, 1)), (19, (.getfield 24, 3)), (22, (.invokevirtual 64, 3)), (25, (.goto 8, 3)), (28, (.sipush (-1000), 3)), (31, (.iload_n 1, 1)), (32, (.isub, 1)), (33, (.istore_n 2, 1)), (34, (.aload_n 0, 1)), (35, (.getfield 24, 3)), (38, (.iconst 0, 1)), (39, (.putfield 53, 3)), (42, (.iload_n 2, 1)), (43, (.ireturn, 1))]
set_option maxRecDepth 100000 in
theorem td_X4_rack : tb_X4_rack.all (fun q => decide (decode cX4_rack q.1 = .ok q.2)) = true := by decide +kernel
def tb_X4_purpose : TB := [(0, (.aload_n 0, 1)), (1, (.getfield 20, 3)), (4, (.iload_n 1, 1)), (5, (.invokevirtual 68, 3)), (8, (.ifCond .ne 9, 3)), (11, (.aload_n 0, 1)), (12, (.iconst 1, 1)), (13, (.invokevirtual 49, 3)), (16, (.ireturn, 1)), (17, (.iload_n 2, 1)), (18, (.tableswitch 80 0 4 #[34, 44, 54, 64, 74], 34)), (52, (.aload_n 0, 1)), (53, (.getfield 20, 3)), (56, (.getfield 72, 3)), (59, (.iload_n 1, 1)), (60, (.iaload, 1)), (61, (.ireturn, 1)), (62, (.aload_n 0, 1)), (63, (.getfield 20, 3)), (66, (.getfield 75, 3)), (69, (.iload_n 1, 1)), (70, (.iaload, 1)), (71, (.ireturn, 1)), (72, (.aload_n 0, 1)), (73, (.getfield 20, 3)), (76, (.getfield 78, 3)), (79, (.iload_n 1, 1)), (80, (.iaload, 1)), (81, (.ireturn, 1)), (82, (.aload_n 0, 1)), (83, (.getfield 20, 3)), (86, (.getfield 81, 3)), (89, (.iload_n 1, 1)), (90, (.iaload, 1)), (91, (.ireturn, 1)), (92, (.aload_n 0, 1)), (93, (.iload_n 1, 1)), (94, (.invokevirtual 84, 3)), (97, (.ireturn, 1)), (98, (.aload_n 0, 1)), (99, (.iconst 2, 1)), (100, (.invokevirtual 49, 3)), (103, (.ireturn, 1))]
set_option maxRecDepth 100000 in
theorem td_X4_purpose : tb_X4_purpose.all (fun q => decide (decode cX4_purpose q.1 = .ok q.2)) = true := by decide +kernel
def tb_X4_lessNextDay : TB := [(0, (.aload_n 0, 1)), (1, (.getfield 20, 3)), (4, (.iload_n 1, 1)), (5, (.invokevirtual 68, 3)), (8, (.ifCond .ne 5, 3)), (11, (.iconst 0, 1)), (12, (.ireturn, 1)), (13, (.aload_n 0, 1)), (14, (.getfield 20, 3)), (17, (.getfield 78, 3)), (20, (.iload_n 1, 1)), (21, (.iaload, 1)), (22, (.istore_n 2, 1)), (23, (.aload_n 0, 1)), (24, (.getfield 20, 3)), (27, (.getfield 72, 3)), (30, (.iload_n 1, 1)), (31, (.iaload, 1)), (32, (.aload_n 0, 1)), (33, (.getfield 20, 3)), (36, (.getfield 75, 3)), (39, (.iload_n 1, 1)), (40, (.iaload, 1)), (41, (.iload_n 2, 1)), (42, (.aload_n 0, 1)), (43, (.getfield 20, 3)), (46, (.getfield 81, 3)), (49, (.iload_n 1, 1)), (50, (.iaload, 1)), (51, (.aload_n 0, 1)), (52, (.getfield 20, 3)), (55, (.getfield 87, 3)), (58, (.iconst 1, 1)), (59, (.iadd, 1)), (60, (.invokestatic 90, 3)), (63, (.ireturn, 1))]
set_option maxRecDepth 100000 in
theorem td_X4_lessNextDay : tb_X4_lessNextDay.all (fun q => decide (decode cX4_lessNextDay q.1 = .ok q.2)) = true := by decide +kernel
def tb_X4_spare : TB := [(0, (.aload_n 0, 1)), (1, (.getfield 20, 3)), (4, (.iload_n 1, 1)), (5, (.invokevirtual 68, 3)), (8, (.ifCond .ne 12, 3)), (11, (.ldc 96, 2)), (13, (.aload_n 0, 1)), (14, (.iconst 1, 1)), (15, (.invokevirtual 49, 3)), (18, (.isub, 1)), (19, (.ireturn, 1)), (20, (.aload_n 0, 1)), (21, (.getfield 20, 3)), (24, (.iload_n 1, 1)), (25, (.invokevirtual 97, 3)), (28, (.ireturn, 1))]
set_option maxRecDepth 100000 in
theorem td_X4_spare : tb_X4_spare.all (fun q => decide (decode cX4_spare q.1 = .ok q.2)) = true := by decide +kernel
def tb_X4_thing : TB := [(0, (.aload_n 0, 1)), (1, (.getfield 20, 3)), (4, (.iload_n 1, 1)), (5, (.invokevirtual 100, 3)), (8, (.ifCond .ne 9, 3)), (11, (.aload_n 0, 1)), (12, (.iconst 1, 1)), (13, (.invokevirtual 49, 3)), (16, (.ireturn, 1)), (17, (.iload_n 2, 1)), (18, (.tableswitch 77 0 3 #[30, 40, 50, 60], 30)), (48, (.aload_n 0, 1)), (49, (.getfield 20, 3)), (52, (.getfield 103, 3)), (55, (.iload_n 1, 1)), (56, (.iaload, 1)), (57, (.ireturn, 1)), (58, (.aload_n 0, 1)), (59, (.getfield 20, 3)), (62, (.getfield 106, 3)), (65, (.iload_n 1, 1)), (66, (.iaload, 1)), (67, (.ireturn, 1)), (68, (.aload_n 0, 1)), (69, (.getfield 20, 3)), (72, (.getfield 109, 3)), (75, (.iload_n 1, 1)), (76, (.iaload, 1)), (77, (.ireturn, 1)), (78, (.aload_n 0, 1)), (79, (.getfield 20, 3)), (82, (.iload_n 1, 1)), (83, (.invokevirtual 112, 3)), (86, (.ifCond .eq 7, 3)), (89, (.iconst 1, 1)), (90, (.goto 4, 3)), (93, (.iconst 0, 1)), (94, (.ireturn, 1)), (95, (.aload_n 0, 1)), (96, (.iconst 2, 1)), (97, (.invokevirtual 49, 3)), (100, (.ireturn, 1))]
set_option maxRecDepth 100000 in
theorem td_X4_thing : tb_X4_thing.all (fun q => decide (decode cX4_thing q.1 = .ok q.2)) = true := by decide +kernel
def tb_X4_at : TB := [(0, (.iload_n 1, 1)), (1, (.invokestatic 115, 3)), (4, (.ifCond .ne 9, 3)), (7, (.aload_n 0, 1)), (8, (.iconst 1, 1)), (9, (.invokevirtual 49, 3)), (12, (.ireturn, 1)), (13, (.aload_n 0, 1)), (14, (.getfield 20, 3)), (17, (.getfield 118, 3)), (20, (.iload_n 1, 1)), (21, (.iaload, 1)), (22, (.ireturn, 1))]
set_option maxRecDepth 100000 in
theorem td_X4_at : tb_X4_at.all (fun q => decide (decode cX4_at q.1 = .ok q.2)) = true := by decide +kernel
def tb_X4_count : TB := [(0, (.iload_n 1, 1)), (1, (.tableswitch 108 0 7 #[47, 55, 63, 71, 79, 87, 95, 100], 47)), (48, (.aload_n 0, 1)), (49, (.getfield 20, 3)), (52, (.getfield 121, 3)), (55, (.ireturn, 1)), (56, (.aload_n 0, 1)), (57, (.getfield 20, 3)), (60, (.getfield 124, 3)), (63, (.ireturn, 1)), (64, (.aload_n 0, 1)), (65, (.getfield 20, 3)), (68, (.getfield 87, 3)), (71, (.ireturn, 1)), (72, (.aload_n 0, 1)), (73, (.getfield 20, 3)), (76, (.getfield 127, 3)), (79, (.ireturn, 1)), (80, (.aload_n 0, 1)), (81, (.getfield 20, 3)), (84, (.invokevirtual 130, 3)), (87, (.ireturn, 1)), (88, (.aload_n 0, 1)), (89, (.getfield 20, 3)), (92, (.invokevirtual 133, 3)), (95, (.ireturn, 1)), (96, (.aload_n 0, 1)), (97, (.getfield 42, 3)), (100, (.ireturn, 1)), (101, (.aload_n 0, 1)), (102, (.getfield 24, 3)), (105, (.getfield 53, 3)), (108, (.ireturn, 1)), (109, (.iload_n 1, 1)), (110, (.bipush 11, 2)), (112, (.if_icmp .lt 21, 3)), (115, (.iload_n 1, 1)), (116, (.bipush 16, 2)), (118, (.if_icmp .gt 15, 3)), (121, (.aload_n 0, 1)), (122, (.getfield 46, 3)), (125, (.iload_n 1, 1)), (126, (.bipush 10, 2)), (128, (.isub, 1)), (129, (.iaload, 1)), (130, (.goto 5, 3)), (133, (.bipush (-9), 2)), (135, (.ireturn, 1))]
set_option maxRecDepth 100000 in
theorem td_X4_count : tb_X4_count.all (fun q => decide (decode cX4_count q.1 = .ok q.2)) = true := by decide +kernel
def tb_X4_leans : TB := [(0, (.aload_n 0, 1)), (1, (.getfield 20, 3)), (4, (.iload_n 1, 1)), (5, (.invokevirtual 100, 3)), (8, (.ifCond .eq 14, 3)), (11, (.aload_n 0, 1)), (12, (.getfield 20, 3)), (15, (.iload_n 2, 1)), (16, (.invokevirtual 68, 3)), (19, (.ifCond .ne 9, 3)), (22, (.aload_n 0, 1)), (23, (.iconst 1, 1)), (24, (.invokevirtual 49, 3)), (27, (.ireturn, 1)), (28, (.aload_n 0, 1)), (29, (.getfield 20, 3)), (32, (.getfield 109, 3)), (35, (.iload_n 1, 1)), (36, (.iaload, 1)), (37, (.istore_n 3, 1)), (38, (.aload_n 0, 1)), (39, (.getfield 20, 3)), (42, (.iload_n 1, 1)), (43, (.iload_n 2, 1)), (44, (.invokevirtual 136, 3)), (47, (.pop, 1)), (48, (.iload_n 3, 1)), (49, (.ireturn, 1))]
set_option maxRecDepth 100000 in
theorem td_X4_leans : tb_X4_leans.all (fun q => decide (decode cX4_leans q.1 = .ok q.2)) = true := by decide +kernel
def tb_X4_moves : TB := [(0, (.aload_n 0, 1)), (1, (.getfield 20, 3)), (4, (.iload_n 1, 1)), (5, (.invokevirtual 100, 3)), (8, (.ifCond .eq 10, 3)), (11, (.iload_n 2, 1)), (12, (.invokestatic 115, 3)), (15, (.ifCond .ne 9, 3)), (18, (.aload_n 0, 1)), (19, (.iconst 1, 1)), (20, (.invokevirtual 49, 3)), (23, (.ireturn, 1)), (24, (.aload_n 0, 1)), (25, (.getfield 20, 3)), (28, (.iload_n 1, 1)), (29, (.iload_n 2, 1)), (30, (.invokevirtual 140, 3)), (33, (.ifCond .ne 9, 3)), (36, (.aload_n 0, 1)), (37, (.iconst 3, 1)), (38, (.invokevirtual 49, 3)), (41, (.ireturn, 1)), (42, (.aload_n 0, 1)), (43, (.getfield 20, 3)), (46, (.getfield 106, 3)), (49, (.iload_n 1, 1)), (50, (.iaload, 1)), (51, (.istore_n 3, 1)), (52, (.aload_n 0, 1)), (53, (.getfield 20, 3)), (56, (.iload_n 1, 1)), (57, (.iload_n 2, 1)), (58, (.invokevirtual 143, 3)), (61, (.iload_n 3, 1)), (62, (.ireturn, 1))]
set_option maxRecDepth 100000 in
theorem td_X4_moves : tb_X4_moves.all (fun q => decide (decode cX4_moves q.1 = .ok q.2)) = true := by decide +kernel
def tb_X4_setsUp : TB := [(0, (.aload_n 0, 1)), (1, (.getfield 20, 3)), (4, (.iload_n 1, 1)), (5, (.invokevirtual 100, 3)), (8, (.ifCond .ne 9, 3)), (11, (.aload_n 0, 1)), (12, (.iconst 1, 1)), (13, (.invokevirtual 49, 3)), (16, (.ireturn, 1)), (17, (.aload_n 0, 1)), (18, (.getfield 20, 3)), (21, (.iload_n 1, 1)), (22, (.invokevirtual 112, 3)), (25, (.ifCond .eq 5, 3)), (28, (.iconst 0, 1)), (29, (.ireturn, 1)), (30, (.aload_n 0, 1)), (31, (.getfield 20, 3)), (34, (.iload_n 1, 1)), (35, (.invokevirtual 147, 3)), (38, (.pop, 1)), (39, (.iconst 1, 1)), (40, (.ireturn, 1))]
set_option maxRecDepth 100000 in
theorem td_X4_setsUp : tb_X4_setsUp.all (fun q => decide (decode cX4_setsUp q.1 = .ok q.2)) = true := by decide +kernel
def tb_X4_pushes : TB := [(0, (.aload_n 0, 1)), (1, (.iload_n 1, 1)), (2, (.invokevirtual 150, 3)), (5, (.istore_n 2, 1)), (6, (.iload_n 2, 1)), (7, (.ifCond .eq 11, 3)), (10, (.aload_n 0, 1)), (11, (.iload_n 2, 1)), (12, (.invokevirtual 49, 3)), (15, (.goto 11, 3)), (18, (.aload_n 0, 1)), (19, (.getfield 20, 3)), (22, (.iload_n 1, 1)), (23, (.invokevirtual 153, 3)), (26, (.ireturn, 1))]
set_option maxRecDepth 100000 in
theorem td_X4_pushes : tb_X4_pushes.all (fun q => decide (decode cX4_pushes q.1 = .ok q.2)) = true := by decide +kernel
def tb_X4_strong : TB := [(0, (.aload_n 0, 1)), (1, (.getfield 20, 3)), (4, (.iload_n 1, 1)), (5, (.invokevirtual 68, 3)), (8, (.ifCond .eq 13, 3)), (11, (.iload_n 2, 1)), (12, (.iconst 0, 1)), (13, (.bipush 99, 2)), (15, (.invokestatic 156, 3)), (18, (.goto 4, 3)), (21, (.iconst 1, 1)), (22, (.istore_n 3, 1)), (23, (.iload_n 3, 1)), (24, (.ifCond .eq 9, 3)), (27, (.aload_n 0, 1)), (28, (.iload_n 3, 1)), (29, (.invokevirtual 49, 3)), (32, (.ireturn, 1)), (33, (.aload_n 0, 1)), (34, (.getfield 20, 3)), (37, (.getfield 78, 3)), (40, (.iload_n 1, 1)), (41, (.iaload, 1)), (42, (.istore 4, 2)), (44, (.aload_n 0, 1)), (45, (.getfield 20, 3)), (48, (.getfield 78, 3)), (51, (.iload_n 1, 1)), (52, (.iload_n 2, 1)), (53, (.iastore, 1)), (54, (.iload 4, 2)), (56, (.ireturn, 1))]
set_option maxRecDepth 100000 in
theorem td_X4_strong : tb_X4_strong.all (fun q => decide (decode cX4_strong q.1 = .ok q.2)) = true := by decide +kernel
def tb_X4_turn : TB := [(0, (.aload_n 0, 1)), (1, (.getfield 20, 3)), (4, (.iload_n 1, 1)), (5, (.invokevirtual 68, 3)), (8, (.ifCond .ne 9, 3)), (11, (.aload_n 0, 1)), (12, (.iconst 1, 1)), (13, (.invokevirtual 49, 3)), (16, (.ireturn, 1)), (17, (.iload_n 2, 1)), (18, (.ifCond .lt 9, 3)), (21, (.iload_n 2, 1)), (22, (.bipush 6, 2)), (24, (.if_icmp .lt 9, 3)), (27, (.aload_n 0, 1)), (28, (.iconst 2, 1)), (29, (.invokevirtual 49, 3)), (32, (.ireturn, 1)), (33, (.iload_n 3, 1)), (34, (.iconst 0, 1)), (35, (.bipush 9, 2)), (37, (.invokestatic 156, 3)), (40, (.istore 4, 2)), (42, (.iload 4, 2)), (44, (.ifCond .eq 10, 3)), (47, (.aload_n 0, 1)), (48, (.iload 4, 2)), (50, (.invokevirtual 49, 3)), (53, (.ireturn, 1)), (54, (.bipush 10, 2)), (56, (.aload_n 0, 1)), (57, (.getfield 20, 3)), (60, (.getfield 72, 3)), (63, (.iload_n 1, 1)), (64, (.iaload, 1)), (65, (.imul, 1)), (66, (.aload_n 0, 1)), (67, (.getfield 20, 3)), (70, (.getfield 75, 3)), (73, (.iload_n 1, 1)), (74, (.iaload, 1)), (75, (.iadd, 1)), (76, (.istore 5, 2)), (78, (.aload_n 0, 1)), (79, (.getfield 20, 3)), (82, (.getfield 72, 3)), (85, (.iload_n 1, 1)), (86, (.iload_n 2, 1)), (87, (.iastore, 1)), (88, (.aload_n 0, 1)), (89, (.getfield 20, 3)), (92, (.getfield 75, 3)), (95, (.iload_n 1, 1)), (96, (.iload_n 3, 1)), (97, (.iastore, 1)), (98, (.iload 5, 2)), (100, (.ireturn, 1))]
set_option maxRecDepth 100000 in
theorem td_X4_turn : tb_X4_turn.all (fun q => decide (decode cX4_turn q.1 = .ok q.2)) = true := by decide +kernel
def tb_X4_days : TB := [(0, (.iload_n 1, 1)), (1, (.iconst 1, 1)), (2, (.bipush 60, 2)), (4, (.sipush 999, 3)), (7, (.aload_n 0, 1)), (8, (.getfield 20, 3)), (11, (.getfield 87, 3)), (14, (.isub, 1)), (15, (.invokestatic 160, 3)), (18, (.invokestatic 156, 3)), (21, (.istore_n 2, 1)), (22, (.iload_n 2, 1)), (23, (.ifCond .eq 9, 3)), (26, (.aload_n 0, 1)), (27, (.iload_n 2, 1)), (28, (.invokevirtual 49, 3)), (31, (.ireturn, 1)), (32, (.aload_n 0, 1)), (33, (.getfield 20, 3)), (36, (.iload_n 1, 1)), (37, (.invokevirtual 166, 3)), (40, (.aload_n 0, 1)), (41, (.getfield 20, 3)), (44, (.invokevirtual 169, 3)), (47, (.ireturn, 1))]
set_option maxRecDepth 100000 in
theorem td_X4_days : tb_X4_days.all (fun q => decide (decode cX4_days q.1 = .ok q.2)) = true := by decide +kernel
def tb_X4_upThen : TB := [(0, (.aload_n 0, 1)), (1, (.getfield 20, 3)), (4, (.iload_n 1, 1)), (5, (.invokevirtual 100, 3)), (8, (.ifCond .eq 13, 3)), (11, (.iload_n 2, 1)), (12, (.iconst 0, 1)), (13, (.bipush 99, 2)), (15, (.invokestatic 156, 3)), (18, (.goto 4, 3)), (21, (.iconst 1, 1)), (22, (.istore_n 3, 1)), (23, (.iload_n 3, 1)), (24, (.ifCond .eq 9, 3)), (27, (.aload_n 0, 1)), (28, (.iload_n 3, 1)), (29, (.invokevirtual 49, 3)), (32, (.ireturn, 1)), (33, (.aload_n 0, 1)), (34, (.getfield 10, 3)), (37, (.iload_n 2, 1)), (38, (.invokevirtual 172, 3)), (41, (.iload_n 1, 1)), (42, (.invokevirtual 112, 3)), (45, (.ifCond .eq 7, 3)), (48, (.iconst 1, 1)), (49, (.goto 4, 3)), (52, (.iconst 0, 1)), (53, (.ireturn, 1))]
set_option maxRecDepth 100000 in
theorem td_X4_upThen : tb_X4_upThen.all (fun q => decide (decode cX4_upThen q.1 = .ok q.2)) = true := by decide +kernel
def tb_X4_allThen : TB := [(0, (.iload_n 1, 1)), (1, (.iconst 0, 1)), (2, (.bipush 99, 2)), (4, (.invokestatic 156, 3)), (7, (.istore_n 2, 1)), (8, (.iload_n 2, 1)), (9, (.ifCond .eq 11, 3)), (12, (.aload_n 0, 1)), (13, (.iload_n 2, 1)), (14, (.invokevirtual 49, 3)), (17, (.goto 14, 3)), (20, (.aload_n 0, 1)), (21, (.getfield 10, 3)), (24, (.iload_n 1, 1)), (25, (.invokevirtual 172, 3)), (28, (.invokevirtual 169, 3)), (31, (.ireturn, 1))]
set_option maxRecDepth 100000 in
theorem td_X4_allThen : tb_X4_allThen.all (fun q => decide (decode cX4_allThen q.1 = .ok q.2)) = true := by decide +kernel
def tb_X4_purposeThen : TB := [(0, (.aload_n 0, 1)), (1, (.getfield 20, 3)), (4, (.iload_n 1, 1)), (5, (.invokevirtual 68, 3)), (8, (.ifCond .eq 13, 3)), (11, (.iload_n 2, 1)), (12, (.iconst 0, 1)), (13, (.bipush 99, 2)), (15, (.invokestatic 156, 3)), (18, (.goto 4, 3)), (21, (.iconst 1, 1)), (22, (.istore 4, 2)), (24, (.iload 4, 2)), (26, (.ifCond .eq 10, 3)), (29, (.aload_n 0, 1)), (30, (.iload 4, 2)), (32, (.invokevirtual 49, 3)), (35, (.ireturn, 1)), (36, (.iload_n 3, 1)), (37, (.invokestatic 176, 3)), (40, (.ifCond .eq 9, 3)), (43, (.aload_n 0, 1)), (44, (.iconst 2, 1)), (45, (.invokevirtual 49, 3)), (48, (.ireturn, 1)), (49, (.aload_n 0, 1)), (50, (.getfield 10, 3)), (53, (.iload_n 2, 1)), (54, (.invokevirtual 172, 3)), (57, (.astore 5, 2)), (59, (.iload_n 3, 1)), (60, (.ifCond .ne 13, 3)), (63, (.aload 5, 2)), (65, (.getfield 78, 3)), (68, (.iload_n 1, 1)), (69, (.iaload, 1)), (70, (.goto 10, 3)), (73, (.aload 5, 2)), (75, (.getfield 81, 3)), (78, (.iload_n 1, 1)), (79, (.iaload, 1)), (80, (.ireturn, 1))]
set_option maxRecDepth 100000 in
theorem td_X4_purposeThen : tb_X4_purposeThen.all (fun q => decide (decode cX4_purposeThen q.1 = .ok q.2)) = true := by decide +kernel
def tb_X4_falls : TB := [(0, (.aload_n 0, 1)), (1, (.getfield 20, 3)), (4, (.iload_n 1, 1)), (5, (.invokevirtual 100, 3)), (8, (.ifCond .eq 14, 3)), (11, (.aload_n 0, 1)), (12, (.getfield 10, 3)), (15, (.iload_n 1, 1)), (16, (.invokevirtual 179, 3)), (19, (.goto 8, 3)), (22, (.aload_n 0, 1)), (23, (.iconst 1, 1)), (24, (.invokevirtual 49, 3)), (27, (.ireturn, 1))]
set_option maxRecDepth 100000 in
theorem td_X4_falls : tb_X4_falls.all (fun q => decide (decode cX4_falls q.1 = .ok q.2)) = true := by decide +kernel
def tb_X4_first : TB := [(0, (.iload_n 1, 1)), (1, (.ifCond .lt 8, 3)), (4, (.iload_n 1, 1)), (5, (.iconst 3, 1)), (6, (.if_icmp .le 9, 3)), (9, (.aload_n 0, 1)), (10, (.iconst 2, 1)), (11, (.invokevirtual 49, 3)), (14, (.ireturn, 1)), (15, (.iload_n 1, 1)), (16, (.iconst 3, 1)), (17, (.if_icmp .ne 11, 3)), (20, (.aload_n 0, 1)), (21, (.getfield 10, 3)), (24, (.invokevirtual 182, 3)), (27, (.ireturn, 1)), (28, (.aload_n 0, 1)), (29, (.getfield 10, 3)), (32, (.invokevirtual 185, 3)), (35, (.istore_n 2, 1)), (36, (.iload_n 1, 1)), (37, (.iconst 2, 1)), (38, (.if_icmp .ne 18, 3)), (41, (.iload_n 2, 1)), (42, (.bipush (-9), 2)), (44, (.if_icmp .ne 8, 3)), (47, (.bipush 99, 2)), (49, (.goto 6, 3)), (52, (.iload_n 2, 1)), (53, (.iconst 1, 1)), (54, (.isub, 1)), (55, (.ireturn, 1)), (56, (.iload_n 1, 1)), (57, (.iconst 1, 1)), (58, (.if_icmp .eq 9, 3)), (61, (.iload_n 2, 1)), (62, (.bipush (-9), 2)), (64, (.if_icmp .ne 5, 3)), (67, (.iload_n 2, 1)), (68, (.ireturn, 1)), (69, (.aload_n 0, 1)), (70, (.getfield 20, 3)), (73, (.aload_n 0, 1)), (74, (.getfield 20, 3)), (77, (.getfield 127, 3)), (80, (.aload_n 0, 1)), (81, (.getfield 10, 3)), (84, (.iload_n 2, 1)), (85, (.invokevirtual 172, 3)), (88, (.getfield 127, 3)), (91, (.iconst (-1), 1)), (92, (.ixor, 1)), (93, (.iand, 1)), (94, (.invokevirtual 188, 3)), (97, (.ireturn, 1))]
set_option maxRecDepth 100000 in
theorem td_X4_first : tb_X4_first.all (fun q => decide (decode cX4_first q.1 = .ok q.2)) = true := by decide +kernel
def tb_X4_pushed : TB := [(0, (.aload_n 0, 1)), (1, (.iload_n 1, 1)), (2, (.invokevirtual 150, 3)), (5, (.istore_n 2, 1)), (6, (.iload_n 2, 1)), (7, (.ifCond .eq 11, 3)), (10, (.aload_n 0, 1)), (11, (.iload_n 2, 1)), (12, (.invokevirtual 49, 3)), (15, (.goto 12, 3)), (18, (.aload_n 0, 1)), (19, (.getfield 20, 3)), (22, (.iload_n 1, 1)), (23, (.iconst 0, 1)), (24, (.invokevirtual 191, 3)), (27, (.ireturn, 1))]
set_option maxRecDepth 100000 in
theorem td_X4_pushed : tb_X4_pushed.all (fun q => decide (decode cX4_pushed q.1 = .ok q.2)) = true := by decide +kernel
def tb_X4_worst : TB := [(0, (.iload_n 1, 1)), (1, (.invokestatic 176, 3)), (4, (.ifCond .eq 9, 3)), (7, (.aload_n 0, 1)), (8, (.iconst 2, 1)), (9, (.invokevirtual 49, 3)), (12, (.ireturn, 1)), (13, (.aload_n 0, 1)), (14, (.getfield 20, 3)), (17, (.invokevirtual 194, 3)), (20, (.istore_n 2, 1)), (21, (.iload_n 1, 1)), (22, (.ifCond .eq 9, 3)), (25, (.iload_n 2, 1)), (26, (.bipush (-9), 2)), (28, (.if_icmp .ne 5, 3)), (31, (.iload_n 2, 1)), (32, (.ireturn, 1)), (33, (.aload_n 0, 1)), (34, (.getfield 20, 3)), (37, (.iload_n 2, 1)), (38, (.iconst 0, 1)), (39, (.invokevirtual 191, 3)), (42, (.invokestatic 197, 3)), (45, (.ireturn, 1))]
set_option maxRecDepth 100000 in
theorem td_X4_worst : tb_X4_worst.all (fun q => decide (decode cX4_worst q.1 = .ok q.2)) = true := by decide +kernel
def tb_X4_gap : TB := [(0, (.aload_n 0, 1)), (1, (.iload_n 1, 1)), (2, (.invokevirtual 150, 3)), (5, (.istore_n 2, 1)), (6, (.iload_n 2, 1)), (7, (.ifCond .eq 11, 3)), (10, (.aload_n 0, 1)), (11, (.iload_n 2, 1)), (12, (.invokevirtual 49, 3)), (15, (.goto 11, 3)), (18, (.aload_n 0, 1)), (19, (.getfield 20, 3)), (22, (.iload_n 1, 1)), (23, (.invokevirtual 202, 3)), (26, (.ireturn, 1))]
set_option maxRecDepth 100000 in
theorem td_X4_gap : tb_X4_gap.all (fun q => decide (decode cX4_gap q.1 = .ok q.2)) = true := by decide +kernel
def tb_X4_longest : TB := [(0, (.iload_n 1, 1)), (1, (.invokestatic 176, 3)), (4, (.ifCond .eq 9, 3)), (7, (.aload_n 0, 1)), (8, (.iconst 2, 1)), (9, (.invokevirtual 49, 3)), (12, (.ireturn, 1)), (13, (.aload_n 0, 1)), (14, (.getfield 20, 3)), (17, (.invokevirtual 205, 3)), (20, (.istore_n 2, 1)), (21, (.iload_n 1, 1)), (22, (.iconst 1, 1)), (23, (.if_icmp .ne 5, 3)), (26, (.iload_n 2, 1)), (27, (.ireturn, 1)), (28, (.iload_n 2, 1)), (29, (.bipush (-9), 2)), (31, (.if_icmp .ne 7, 3)), (34, (.iconst 0, 1)), (35, (.goto 11, 3)), (38, (.aload_n 0, 1)), (39, (.getfield 20, 3)), (42, (.iload_n 2, 1)), (43, (.invokevirtual 208, 3)), (46, (.ireturn, 1))]
set_option maxRecDepth 100000 in
theorem td_X4_longest : tb_X4_longest.all (fun q => decide (decode cX4_longest q.1 = .ok q.2)) = true := by decide +kernel
def tb_X4_bestPlace : TB := [(0, (.aload_n 0, 1)), (1, (.getfield 20, 3)), (4, (.iload_n 1, 1)), (5, (.invokevirtual 100, 3)), (8, (.ifCond .ne 9, 3)), (11, (.aload_n 0, 1)), (12, (.iconst 1, 1)), (13, (.invokevirtual 49, 3)), (16, (.ireturn, 1)), (17, (.iload_n 2, 1)), (18, (.invokestatic 176, 3)), (21, (.ifCond .eq 9, 3)), (24, (.aload_n 0, 1)), (25, (.iconst 2, 1)), (26, (.invokevirtual 49, 3)), (29, (.ireturn, 1)), (30, (.aload_n 0, 1)), (31, (.getfield 20, 3)), (34, (.iload_n 1, 1)), (35, (.invokevirtual 112, 3)), (38, (.ifCond .ne 9, 3)), (41, (.aload_n 0, 1)), (42, (.iconst 3, 1)), (43, (.invokevirtual 49, 3)), (46, (.ireturn, 1)), (47, (.aload_n 0, 1)), (48, (.getfield 10, 3)), (51, (.iload_n 1, 1)), (52, (.invokevirtual 211, 3)), (55, (.istore_n 3, 1)), (56, (.iload_n 2, 1)), (57, (.ifCond .ne 7, 3)), (60, (.iload_n 3, 1)), (61, (.goto 12, 3)), (64, (.aload_n 0, 1)), (65, (.getfield 10, 3)), (68, (.iload_n 1, 1)), (69, (.iload_n 3, 1)), (70, (.invokevirtual 214, 3)), (73, (.ireturn, 1))]
set_option maxRecDepth 100000 in
theorem td_X4_bestPlace : tb_X4_bestPlace.all (fun q => decide (decode cX4_bestPlace q.1 = .ok q.2)) = true := by decide +kernel
def tb_X4_lean : TB := [(0, (.aload_n 0, 1)), (1, (.iload_n 1, 1)), (2, (.invokevirtual 150, 3)), (5, (.istore_n 2, 1)), (6, (.iload_n 2, 1)), (7, (.ifCond .eq 11, 3)), (10, (.aload_n 0, 1)), (11, (.iload_n 2, 1)), (12, (.invokevirtual 49, 3)), (15, (.goto 11, 3)), (18, (.aload_n 0, 1)), (19, (.getfield 10, 3)), (22, (.iload_n 1, 1)), (23, (.invokevirtual 217, 3)), (26, (.ireturn, 1))]
set_option maxRecDepth 100000 in
theorem td_X4_lean : tb_X4_lean.all (fun q => decide (decode cX4_lean q.1 = .ok q.2)) = true := by decide +kernel
def tb_X4_bestLeans_0 : TB := [(0, (.aload_n 0, 1)), (1, (.getfield 20, 3)), (4, (.iload_n 1, 1)), (5, (.invokevirtual 100, 3)), (8, (.ifCond .eq 40, 3)), (11, (.aload_n 0, 1)), (12, (.getfield 20, 3)), (15, (.iload_n 2, 1)), (16, (.invokevirtual 100, 3)), (19, (.ifCond .eq 29, 3)), (22, (.aload_n 0, 1)), (23, (.getfield 20, 3)), (26, (.iload_n 3, 1)), (27, (.invokevirtual 100, 3)), (30, (.ifCond .eq 18, 3)), (33, (.iload_n 1, 1)), (34, (.iload_n 2, 1)), (35, (.if_icmp .eq 13, 3)), (38, (.iload_n 1, 1)), (39, (.iload_n 3, 1)), (40, (.if_icmp .eq 8, 3)), (43, (.iload_n 2, 1)), (44, (.iload_n 3, 1)), (45, (.if_icmp .ne 9, 3)), (48, (.aload_n 0, 1)), (49, (.iconst 1, 1)), (50, (.invokevirtual 49, 3)), (53, (.ireturn, 1)), (54, (.iload 4, 2)), (56, (.iconst 0, 1)), (57, (.bipush 20, 2)), (59, (.invokestatic 156, 3)), (62, (.istore 6, 2)), (64, (.iload 6, 2)), (66, (.ifCond .eq 10, 3)), (69, (.aload_n 0, 1)), (70, (.iload 6, 2)), (72, (.invokevirtual 49, 3)), (75, (.ireturn, 1)), (76, (.iload 5, 2)), (78, (.invokestatic 176, 3)), (81, (.ifCond .eq 9, 3)), (84, (.aload_n 0, 1)), (85, (.iconst 2, 1)), (86, (.invokevirtual 49, 3)), (89, (.ireturn, 1)), (90, (.aload_n 0, 1)), (91, (.getfield 10, 3)), (94, (.iload_n 1, 1)), (95, (.iload_n 2, 1)), (96, (.iload_n 3, 1)), (97, (.iload 4, 2)), (99, (.invokevirtual 220, 3)), (102, (.istore 7, 2)), (104, (.iload 5, 2)), (106, (.ifCond .eq 10, 3)), (109, (.iload 7, 2)), (111, (.bipush (-9), 2)), (113, (.if_icmp .ne 6, 3)), (116, (.iload 7, 2))]
set_option maxRecDepth 100000 in
theorem td_X4_bestLeans_0 : tb_X4_bestLeans_0.all (fun q => decide (decode cX4_bestLeans q.1 = .ok q.2)) = true := by decide +kernel
def tb_X4_bestLeans_1 : TB := [(118, (.ireturn, 1)), (119, (.aload_n 0, 1)), (120, (.getfield 10, 3)), (123, (.iload_n 1, 1)), (124, (.iload_n 2, 1)), (125, (.iload_n 3, 1)), (126, (.iload 7, 2)), (128, (.iload 4, 2)), (130, (.invokevirtual 224, 3)), (133, (.ireturn, 1))]
set_option maxRecDepth 100000 in
theorem td_X4_bestLeans_1 : tb_X4_bestLeans_1.all (fun q => decide (decode cX4_bestLeans q.1 = .ok q.2)) = true := by decide +kernel
def tb_X4_bestLeans : TB := tb_X4_bestLeans_0 ++ (tb_X4_bestLeans_1)
theorem td_X4_bestLeans : tb_X4_bestLeans.all (fun q => decide (decode cX4_bestLeans q.1 = .ok q.2)) = true := by simp only [tb_X4_bestLeans, List.all_append, td_X4_bestLeans_0, td_X4_bestLeans_1, Bool.and_self]
def tb_X4_mended : TB := [(0, (.iload_n 1, 1)), (1, (.iconst 0, 1)), (2, (.bipush 99, 2)), (4, (.invokestatic 156, 3)), (7, (.istore_n 2, 1)), (8, (.iload_n 2, 1)), (9, (.ifCond .eq 11, 3)), (12, (.aload_n 0, 1)), (13, (.iload_n 2, 1)), (14, (.invokevirtual 49, 3)), (17, (.goto 11, 3)), (20, (.aload_n 0, 1)), (21, (.getfield 10, 3)), (24, (.iload_n 1, 1)), (25, (.invokevirtual 227, 3)), (28, (.ireturn, 1))]
set_option maxRecDepth 100000 in
theorem td_X4_mended : tb_X4_mended.all (fun q => decide (decode cX4_mended q.1 = .ok q.2)) = true := by decide +kernel
def tb_X4_key : TB := [(0, (.iload_n 1, 1)), (1, (.iconst 0, 1)), (2, (.bipush 99, 2)), (4, (.invokestatic 156, 3)), (7, (.istore_n 2, 1)), (8, (.iload_n 2, 1)), (9, (.ifCond .eq 11, 3)), (12, (.aload_n 0, 1)), (13, (.iload_n 2, 1)), (14, (.invokevirtual 49, 3)), (17, (.goto 11, 3)), (20, (.aload_n 0, 1)), (21, (.getfield 10, 3)), (24, (.iload_n 1, 1)), (25, (.invokevirtual 230, 3)), (28, (.ireturn, 1))]
set_option maxRecDepth 100000 in
theorem td_X4_key : tb_X4_key.all (fun q => decide (decode cX4_key q.1 = .ok q.2)) = true := by decide +kernel
def tb_X4_takes : TB := [(0, (.aload_n 0, 1)), (1, (.getfield 20, 3)), (4, (.iload_n 1, 1)), (5, (.invokevirtual 68, 3)), (8, (.ifCond .eq 13, 3)), (11, (.iload_n 2, 1)), (12, (.iconst 0, 1)), (13, (.bipush 99, 2)), (15, (.invokestatic 156, 3)), (18, (.goto 4, 3)), (21, (.iconst 1, 1)), (22, (.istore_n 3, 1)), (23, (.iload_n 3, 1)), (24, (.ifCond .eq 9, 3)), (27, (.aload_n 0, 1)), (28, (.iload_n 3, 1)), (29, (.invokevirtual 49, 3)), (32, (.ireturn, 1)), (33, (.aload_n 0, 1)), (34, (.getfield 10, 3)), (37, (.iload_n 2, 1)), (38, (.invokevirtual 172, 3)), (41, (.iload_n 1, 1)), (42, (.invokevirtual 97, 3)), (45, (.istore 4, 2)), (47, (.iload 4, 2)), (49, (.ifCond .ge 8, 3)), (52, (.bipush (-9), 2)), (54, (.goto 10, 3)), (57, (.iload 4, 2)), (59, (.bipush 9, 2)), (61, (.invokestatic 160, 3)), (64, (.ireturn, 1))]
set_option maxRecDepth 100000 in
theorem td_X4_takes : tb_X4_takes.all (fun q => decide (decode cX4_takes q.1 = .ok q.2)) = true := by decide +kernel
def tb_X4_balanced : TB := [(0, (.aload_n 0, 1)), (1, (.getfield 20, 3)), (4, (.iload_n 1, 1)), (5, (.invokevirtual 68, 3)), (8, (.ifCond .ne 9, 3)), (11, (.aload_n 0, 1)), (12, (.iconst 1, 1)), (13, (.invokevirtual 49, 3)), (16, (.ireturn, 1)), (17, (.iload_n 2, 1)), (18, (.invokestatic 176, 3)), (21, (.ifCond .eq 9, 3)), (24, (.aload_n 0, 1)), (25, (.iconst 2, 1)), (26, (.invokevirtual 49, 3)), (29, (.ireturn, 1)), (30, (.aload_n 0, 1)), (31, (.getfield 20, 3)), (34, (.aload_n 0, 1)), (35, (.getfield 20, 3)), (38, (.getfield 78, 3)), (41, (.iload_n 1, 1)), (42, (.iaload, 1)), (43, (.invokevirtual 233, 3)), (46, (.istore_n 3, 1)), (47, (.iload_n 2, 1)), (48, (.ifCond .ne 7, 3)), (51, (.iload_n 3, 1)), (52, (.goto 7, 3)), (55, (.iload_n 3, 1)), (56, (.invokestatic 197, 3)), (59, (.ireturn, 1))]
set_option maxRecDepth 100000 in
theorem td_X4_balanced : tb_X4_balanced.all (fun q => decide (decode cX4_balanced q.1 = .ok q.2)) = true := by decide +kernel
def tb_X4_thief : TB := [(0, (.iload_n 1, 1)), (1, (.iconst 0, 1)), (2, (.bipush 99, 2)), (4, (.invokestatic 156, 3)), (7, (.istore_n 2, 1)), (8, (.iload_n 2, 1)), (9, (.ifCond .eq 11, 3)), (12, (.aload_n 0, 1)), (13, (.iload_n 2, 1)), (14, (.invokevirtual 49, 3)), (17, (.goto 11, 3)), (20, (.aload_n 0, 1)), (21, (.getfield 10, 3)), (24, (.iload_n 1, 1)), (25, (.invokevirtual 236, 3)), (28, (.ireturn, 1))]
set_option maxRecDepth 100000 in
theorem td_X4_thief : tb_X4_thief.all (fun q => decide (decode cX4_thief q.1 = .ok q.2)) = true := by decide +kernel
def tb_X4_robbed : TB := [(0, (.aload_n 0, 1)), (1, (.getfield 10, 3)), (4, (.invokevirtual 239, 3)), (7, (.ireturn, 1))]
set_option maxRecDepth 100000 in
theorem td_X4_robbed : tb_X4_robbed.all (fun q => decide (decode cX4_robbed q.1 = .ok q.2)) = true := by decide +kernel
def tb_X4_draught : TB := [(0, (.aload_n 0, 1)), (1, (.iload_n 1, 1)), (2, (.iload_n 2, 1)), (3, (.iload_n 3, 1)), (4, (.iload 4, 2)), (6, (.invokevirtual 242, 3)), (9, (.istore 5, 2)), (11, (.iload 5, 2)), (13, (.ifCond .eq 15, 3)), (16, (.ldc2_w 245, 3)), (19, (.aload_n 0, 1)), (20, (.iload 5, 2)), (22, (.invokevirtual 49, 3)), (25, (.i2l, 1)), (26, (.lsub, 1)), (27, (.lreturn, 1)), (28, (.aload_n 0, 1)), (29, (.getfield 10, 3)), (32, (.iload_n 1, 1)), (33, (.iload_n 2, 1)), (34, (.iload_n 3, 1)), (35, (.invokevirtual 247, 3)), (38, (.lstore 6, 2)), (40, (.iload_n 3, 1)), (41, (.iload_n 2, 1)), (42, (.invokestatic 251, 3)), (45, (.lstore 8, 2)), (47, (.lload 6, 2)), (49, (.lload 8, 2)), (51, (.invokestatic 255, 3)), (54, (.lstore 10, 2)), (56, (.lload 10, 2)), (58, (.lconst 1, 1)), (59, (.lcmp, 1)), (60, (.ifCond .ge 7, 3)), (63, (.iload 4, 2)), (65, (.i2l, 1)), (66, (.lreturn, 1)), (67, (.iload 4, 2)), (69, (.ifCond .ne 11, 3)), (72, (.lload 6, 2)), (74, (.lload 10, 2)), (76, (.ldiv, 1)), (77, (.goto 8, 3)), (80, (.lload 8, 2)), (82, (.lload 10, 2)), (84, (.ldiv, 1)), (85, (.lreturn, 1))]
set_option maxRecDepth 100000 in
theorem td_X4_draught : tb_X4_draught.all (fun q => decide (decode cX4_draught q.1 = .ok q.2)) = true := by decide +kernel
def tb_X4_offDraught : TB := [(0, (.aload_n 0, 1)), (1, (.getfield 20, 3)), (4, (.iload_n 1, 1)), (5, (.invokevirtual 100, 3)), (8, (.ifCond .ne 5, 3)), (11, (.iconst 1, 1)), (12, (.ireturn, 1)), (13, (.iload_n 2, 1)), (14, (.ifCond .lt 8, 3)), (17, (.iload_n 3, 1)), (18, (.iconst 2, 1)), (19, (.if_icmp .ge 5, 3)), (22, (.iconst 4, 1)), (23, (.ireturn, 1)), (24, (.iload_n 2, 1)), (25, (.bipush 7, 2)), (27, (.if_icmp .gt 9, 3)), (30, (.iload_n 3, 1)), (31, (.bipush 20, 2)), (33, (.if_icmp .le 6, 3)), (36, (.bipush 6, 2)), (38, (.ireturn, 1)), (39, (.iload 4, 2)), (41, (.invokestatic 176, 3)), (44, (.ifCond .eq 7, 3)), (47, (.iconst 2, 1)), (48, (.goto 4, 3)), (51, (.iconst 0, 1)), (52, (.ireturn, 1))]
set_option maxRecDepth 100000 in
theorem td_X4_offDraught : tb_X4_offDraught.all (fun q => decide (decode cX4_offDraught q.1 = .ok q.2)) = true := by decide +kernel
def tb_X4_two : TB := [(0, (.aload_n 0, 1)), (1, (.getfield 20, 3)), (4, (.iload_n 1, 1)), (5, (.invokevirtual 100, 3)), (8, (.ifCond .eq 19, 3)), (11, (.aload_n 0, 1)), (12, (.getfield 20, 3)), (15, (.iload_n 2, 1)), (16, (.invokevirtual 100, 3)), (19, (.ifCond .eq 8, 3)), (22, (.iload_n 1, 1)), (23, (.iload_n 2, 1)), (24, (.if_icmp .ne 9, 3)), (27, (.aload_n 0, 1)), (28, (.iconst 1, 1)), (29, (.invokevirtual 49, 3)), (32, (.ireturn, 1)), (33, (.iload_n 3, 1)), (34, (.iconst 0, 1)), (35, (.bipush 99, 2)), (37, (.invokestatic 156, 3)), (40, (.istore 4, 2)), (42, (.iload 4, 2)), (44, (.ifCond .eq 12, 3)), (47, (.aload_n 0, 1)), (48, (.iload 4, 2)), (50, (.invokevirtual 49, 3)), (53, (.goto 13, 3)), (56, (.aload_n 0, 1)), (57, (.getfield 10, 3)), (60, (.iload_n 1, 1)), (61, (.iload_n 2, 1)), (62, (.iload_n 3, 1)), (63, (.invokevirtual 259, 3)), (66, (.ireturn, 1))]
set_option maxRecDepth 100000 in
theorem td_X4_two : tb_X4_two.all (fun q => decide (decode cX4_two q.1 = .ok q.2)) = true := by decide +kernel
def tb_X4_whatWas : TB := [(0, (.aload_n 0, 1)), (1, (.getfield 20, 3)), (4, (.iload_n 1, 1)), (5, (.invokevirtual 68, 3)), (8, (.ifCond .ne 9, 3)), (11, (.aload_n 0, 1)), (12, (.iconst 1, 1)), (13, (.invokevirtual 49, 3)), (16, (.ireturn, 1)), (17, (.iload_n 2, 1)), (18, (.invokestatic 176, 3)), (21, (.ifCond .eq 9, 3)), (24, (.aload_n 0, 1)), (25, (.iconst 2, 1)), (26, (.invokevirtual 49, 3)), (29, (.ireturn, 1)), (30, (.iload_n 2, 1)), (31, (.ifCond .ne 11, 3)), (34, (.aload_n 0, 1)), (35, (.iload_n 1, 1)), (36, (.invokevirtual 262, 3)), (39, (.goto 8, 3)), (42, (.aload_n 0, 1)), (43, (.iload_n 1, 1)), (44, (.invokevirtual 265, 3)), (47, (.ireturn, 1))]
set_option maxRecDepth 100000 in
theorem td_X4_whatWas : tb_X4_whatWas.all (fun q => decide (decode cX4_whatWas q.1 = .ok q.2)) = true := by decide +kernel
def tb_X4_kindsThatFit : TB := [(0, (.iconst 0, 1)), (1, (.istore_n 2, 1)), (2, (.iconst 0, 1)), (3, (.istore_n 3, 1)), (4, (.iload_n 3, 1)), (5, (.bipush 6, 2)), (7, (.if_icmp .ge 44, 3)), (10, (.aload_n 0, 1)), (11, (.getfield 10, 3)), (14, (.iload_n 1, 1)), (15, (.iload_n 3, 1)), (16, (.aload_n 0, 1)), (17, (.getfield 20, 3)), (20, (.getfield 75, 3)), (23, (.iload_n 1, 1)), (24, (.iaload, 1)), (25, (.aload_n 0, 1)), (26, (.getfield 38, 3)), (29, (.aload_n 0, 1)), (30, (.getfield 42, 3)), (33, (.invokevirtual 268, 3)), (36, (.ifCond .eq 9, 3)), (39, (.iload_n 2, 1)), (40, (.iconst 1, 1)), (41, (.iload_n 3, 1)), (42, (.ishl, 1)), (43, (.ior, 1)), (44, (.istore_n 2, 1)), (45, (.iinc 3 1, 3)), (48, (.goto (-44), 3)), (51, (.iload_n 2, 1)), (52, (.ireturn, 1))]
set_option maxRecDepth 100000 in
theorem td_X4_kindsThatFit : tb_X4_kindsThatFit.all (fun q => decide (decode cX4_kindsThatFit q.1 = .ok q.2)) = true := by decide +kernel
def tb_X4_figuresThatFit : TB := [(0, (.iconst 0, 1)), (1, (.istore_n 2, 1)), (2, (.iconst 0, 1)), (3, (.istore_n 3, 1)), (4, (.iload_n 3, 1)), (5, (.bipush 9, 2)), (7, (.if_icmp .gt 44, 3)), (10, (.aload_n 0, 1)), (11, (.getfield 10, 3)), (14, (.iload_n 1, 1)), (15, (.aload_n 0, 1)), (16, (.getfield 20, 3)), (19, (.getfield 72, 3)), (22, (.iload_n 1, 1)), (23, (.iaload, 1)), (24, (.iload_n 3, 1)), (25, (.aload_n 0, 1)), (26, (.getfield 38, 3)), (29, (.aload_n 0, 1)), (30, (.getfield 42, 3)), (33, (.invokevirtual 268, 3)), (36, (.ifCond .eq 9, 3)), (39, (.iload_n 2, 1)), (40, (.iconst 1, 1)), (41, (.iload_n 3, 1)), (42, (.ishl, 1)), (43, (.ior, 1)), (44, (.istore_n 2, 1)), (45, (.iinc 3 1, 3)), (48, (.goto (-44), 3)), (51, (.iload_n 2, 1)), (52, (.ireturn, 1))]
set_option maxRecDepth 100000 in
theorem td_X4_figuresThatFit : tb_X4_figuresThatFit.all (fun q => decide (decode cX4_figuresThatFit q.1 = .ok q.2)) = true := by decide +kernel
def tb_X4_row : TB := [(0, (.iload_n 1, 1)), (1, (.iconst 0, 1)), (2, (.bipush 99, 2)), (4, (.invokestatic 156, 3)), (7, (.istore_n 2, 1)), (8, (.iload_n 2, 1)), (9, (.ifCond .ne 15, 3)), (12, (.aload_n 0, 1)), (13, (.getfield 42, 3)), (16, (.bipush 16, 2)), (18, (.if_icmp .lt 6, 3)), (21, (.bipush 6, 2)), (23, (.istore_n 2, 1)), (24, (.iload_n 2, 1)), (25, (.ifCond .eq 9, 3)), (28, (.aload_n 0, 1)), (29, (.iload_n 2, 1)), (30, (.invokevirtual 49, 3)), (33, (.ireturn, 1)), (34, (.aload_n 0, 1)), (35, (.getfield 38, 3)), (38, (.aload_n 0, 1)), (39, (.getfield 42, 3)), (42, (.iload_n 1, 1)), (43, (.iastore, 1)), (44, (.aload_n 0, 1)), (45, (.dup, 1)), (46, (.getfield 42, 3)), (49, (.iconst 1, 1)), (50, (.iadd, 1)), (51, (.putfield 42, 3)), (54, (.aload_n 0, 1)), (55, (.getfield 42, 3)), (58, (.ireturn, 1))]
set_option maxRecDepth 100000 in
theorem td_X4_row : tb_X4_row.all (fun q => decide (decode cX4_row q.1 = .ok q.2)) = true := by decide +kernel
def tb_X4_judge : TB := [(0, (.aload_n 0, 1)), (1, (.getfield 10, 3)), (4, (.aload_n 0, 1)), (5, (.getfield 38, 3)), (8, (.aload_n 0, 1)), (9, (.getfield 42, 3)), (12, (.invokevirtual 272, 3)), (15, (.istore_n 1, 1)), (16, (.aload_n 0, 1)), (17, (.iconst 0, 1)), (18, (.putfield 42, 3)), (21, (.iload_n 1, 1)), (22, (.ireturn, 1))]
set_option maxRecDepth 100000 in
theorem td_X4_judge : tb_X4_judge.all (fun q => decide (decode cX4_judge q.1 = .ok q.2)) = true := by decide +kernel
def tb_X4_clear : TB := [(0, (.aload_n 0, 1)), (1, (.getfield 42, 3)), (4, (.istore_n 1, 1)), (5, (.aload_n 0, 1)), (6, (.iconst 0, 1)), (7, (.putfield 42, 3)), (10, (.iload_n 1, 1)), (11, (.ireturn, 1))]
set_option maxRecDepth 100000 in
theorem td_X4_clear : tb_X4_clear.all (fun q => decide (decode cX4_clear q.1 = .ok q.2)) = true := by decide +kernel
def tb_X4_lots : TB := [(0, (.iload_n 1, 1)), (1, (.iconst 1, 1)), (2, (.bipush 20, 2)), (4, (.invokestatic 156, 3)), (7, (.istore 4, 2)), (9, (.iload 4, 2)), (11, (.ifCond .eq 10, 3)), (14, (.aload_n 0, 1)), (15, (.iload 4, 2)), (17, (.invokevirtual 49, 3)), (20, (.ireturn, 1)), (21, (.iload_n 3, 1)), (22, (.invokestatic 176, 3)), (25, (.ifCond .eq 9, 3)), (28, (.aload_n 0, 1)), (29, (.iconst 2, 1)), (30, (.invokevirtual 49, 3)), (33, (.ireturn, 1)), (34, (.aload_n 0, 1)), (35, (.getfield 20, 3)), (38, (.getfield 121, 3)), (41, (.iconst 1, 1)), (42, (.if_icmp .ge 9, 3)), (45, (.aload_n 0, 1)), (46, (.iconst 3, 1)), (47, (.invokevirtual 49, 3)), (50, (.ireturn, 1)), (51, (.aload_n 0, 1)), (52, (.getfield 10, 3)), (55, (.iload_n 1, 1)), (56, (.iload_n 2, 1)), (57, (.iload_n 3, 1)), (58, (.invokevirtual 276, 3)), (61, (.ireturn, 1))]
set_option maxRecDepth 100000 in
theorem td_X4_lots : tb_X4_lots.all (fun q => decide (decode cX4_lots q.1 = .ok q.2)) = true := by decide +kernel
def tb_X4_image : TB := [(0, (.aload_n 0, 1)), (1, (.getfield 31, 3)), (4, (.aload_n 0, 1)), (5, (.getfield 20, 3)), (8, (.invokevirtual 279, 3)), (11, (.aload_n 0, 1)), (12, (.iconst 1, 1)), (13, (.putfield 34, 3)), (16, (.aload_n 0, 1)), (17, (.getfield 20, 3)), (20, (.getfield 87, 3)), (23, (.ireturn, 1))]
set_option maxRecDepth 100000 in
theorem td_X4_image : tb_X4_image.all (fun q => decide (decode cX4_image q.1 = .ok q.2)) = true := by decide +kernel
def tb_X4_on : TB := [(0, (.aload_n 0, 1)), (1, (.getfield 34, 3)), (4, (.ifCond .ne 9, 3)), (7, (.aload_n 0, 1)), (8, (.iconst 3, 1)), (9, (.invokevirtual 49, 3)), (12, (.ireturn, 1)), (13, (.aload_n 0, 1)), (14, (.getfield 20, 3)), (17, (.aload_n 0, 1)), (18, (.getfield 31, 3)), (21, (.invokevirtual 279, 3)), (24, (.aload_n 0, 1)), (25, (.getfield 20, 3)), (28, (.getfield 87, 3)), (31, (.ireturn, 1))]
set_option maxRecDepth 100000 in
theorem td_X4_on : tb_X4_on.all (fun q => decide (decode cX4_on q.1 = .ok q.2)) = true := by decide +kernel
def tb_X4_refuse : TB := [(0, (.iload_n 1, 1)), (1, (.ifCond .lt 22, 3)), (4, (.iload_n 1, 1)), (5, (.aload_n 0, 1)), (6, (.getfield 46, 3)), (9, (.arraylength, 1)), (10, (.if_icmp .ge 13, 3)), (13, (.aload_n 0, 1)), (14, (.getfield 46, 3)), (17, (.iload_n 1, 1)), (18, (.dup2, 1)), (19, (.iaload, 1)), (20, (.iconst 1, 1)), (21, (.iadd, 1)), (22, (.iastore, 1)), (23, (.iload_n 1, 1)), (24, (.ineg, 1)), (25, (.ireturn, 1))]
set_option maxRecDepth 100000 in
theorem td_X4_refuse : tb_X4_refuse.all (fun q => decide (decode cX4_refuse q.1 = .ok q.2)) = true := by decide +kernel
def tb_X4_offUpThing : TB := [(0, (.aload_n 0, 1)), (1, (.getfield 20, 3)), (4, (.iload_n 1, 1)), (5, (.invokevirtual 100, 3)), (8, (.ifCond .ne 5, 3)), (11, (.iconst 1, 1)), (12, (.ireturn, 1)), (13, (.aload_n 0, 1)), (14, (.getfield 20, 3)), (17, (.iload_n 1, 1)), (18, (.invokevirtual 112, 3)), (21, (.ifCond .eq 7, 3)), (24, (.iconst 0, 1)), (25, (.goto 4, 3)), (28, (.iconst 3, 1)), (29, (.ireturn, 1))]
set_option maxRecDepth 100000 in
theorem td_X4_offUpThing : tb_X4_offUpThing.all (fun q => decide (decode cX4_offUpThing q.1 = .ok q.2)) = true := by decide +kernel
def tb_X4_outside : TB := [(0, (.iload_n 0, 1)), (1, (.iload_n 1, 1)), (2, (.if_icmp .ge 5, 3)), (5, (.iconst 4, 1)), (6, (.ireturn, 1)), (7, (.iload_n 0, 1)), (8, (.iload_n 2, 1)), (9, (.if_icmp .le 8, 3)), (12, (.bipush 6, 2)), (14, (.goto 4, 3)), (17, (.iconst 0, 1)), (18, (.ireturn, 1))]
set_option maxRecDepth 100000 in
theorem td_X4_outside : tb_X4_outside.all (fun q => decide (decode cX4_outside q.1 = .ok q.2)) = true := by decide +kernel
def tb_X4_isNeither : TB := [(0, (.iload_n 0, 1)), (1, (.ifCond .eq 12, 3)), (4, (.iload_n 0, 1)), (5, (.iconst 1, 1)), (6, (.if_icmp .eq 7, 3)), (9, (.iconst 1, 1)), (10, (.goto 4, 3)), (13, (.iconst 0, 1)), (14, (.ireturn, 1))]
set_option maxRecDepth 100000 in
theorem td_X4_isNeither : tb_X4_isNeither.all (fun q => decide (decode cX4_isNeither q.1 = .ok q.2)) = true := by decide +kernel
def tb_X4_isPlace : TB := [(0, (.iload_n 0, 1)), (1, (.ifCond .lt 13, 3)), (4, (.iload_n 0, 1)), (5, (.bipush 20, 2)), (7, (.if_icmp .ge 7, 3)), (10, (.iconst 1, 1)), (11, (.goto 4, 3)), (14, (.iconst 0, 1)), (15, (.ireturn, 1))]
set_option maxRecDepth 100000 in
theorem td_X4_isPlace : tb_X4_isPlace.all (fun q => decide (decode cX4_isPlace q.1 = .ok q.2)) = true := by decide +kernel
def tb_X4_has : TB := [(0, (.iload_n 1, 1)), (1, (.ifCond .lt 22, 3)), (4, (.iload_n 1, 1)), (5, (.bipush 32, 2)), (7, (.if_icmp .ge 16, 3)), (10, (.iload_n 0, 1)), (11, (.iload_n 1, 1)), (12, (.iushr, 1)), (13, (.iconst 1, 1)), (14, (.iand, 1)), (15, (.iconst 1, 1)), (16, (.if_icmp .ne 7, 3)), (19, (.iconst 1, 1)), (20, (.goto 4, 3)), (23, (.iconst 0, 1)), (24, (.ireturn, 1))]
set_option maxRecDepth 100000 in
theorem td_X4_has : tb_X4_has.all (fun q => decide (decode cX4_has q.1 = .ok q.2)) = true := by decide +kernel
def tb_X4_power : TB := [(0, (.lconst 1, 1)), (1, (.lstore_n 2, 1)), (2, (.iconst 0, 1)), (3, (.istore 4, 2)), (5, (.iload 4, 2)), (7, (.iload_n 1, 1)), (8, (.if_icmp .ge 21, 3)), (11, (.iload 4, 2)), (13, (.bipush 7, 2)), (15, (.if_icmp .ge 14, 3)), (18, (.lload_n 2, 1)), (19, (.iload_n 0, 1)), (20, (.i2l, 1)), (21, (.lmul, 1)), (22, (.lstore_n 2, 1)), (23, (.iinc 4 1, 3)), (26, (.goto (-21), 3)), (29, (.lload_n 2, 1)), (30, (.lreturn, 1))]
set_option maxRecDepth 100000 in
theorem td_X4_power : tb_X4_power.all (fun q => decide (decode cX4_power q.1 = .ok q.2)) = true := by decide +kernel
def tb_X4_commonDivisor : TB := [(0, (.lload_n 0, 1)), (1, (.lstore 4, 2)), (3, (.lload_n 2, 1)), (4, (.lstore 6, 2)), (6, (.iconst 0, 1)), (7, (.istore 8, 2)), (9, (.iload 8, 2)), (11, (.sipush 200, 3)), (14, (.if_icmp .ge 31, 3)), (17, (.lload 6, 2)), (19, (.lconst 0, 1)), (20, (.lcmp, 1)), (21, (.ifCond .eq 24, 3)), (24, (.lload 4, 2)), (26, (.lload 6, 2)), (28, (.lrem, 1)), (29, (.lstore 9, 2)), (31, (.lload 6, 2)), (33, (.lstore 4, 2)), (35, (.lload 9, 2)), (37, (.lstore 6, 2)), (39, (.iinc 8 1, 3)), (42, (.goto (-33), 3)), (45, (.lload 4, 2)), (47, (.lreturn, 1))]
set_option maxRecDepth 100000 in
theorem td_X4_commonDivisor : tb_X4_commonDivisor.all (fun q => decide (decode cX4_commonDivisor q.1 = .ok q.2)) = true := by decide +kernel
end
section
def tb_X5_isIn : TB := [(0, (.iload_n 0, 1)), (1, (.iload_n 1, 1)), (2, (.if_icmp .lt 12, 3)), (5, (.iload_n 0, 1)), (6, (.iload_n 2, 1)), (7, (.if_icmp .gt 7, 3)), (10, (.iconst 1, 1)), (11, (.goto 4, 3)), (14, (.iconst 0, 1)), (15, (.ireturn, 1))]
set_option maxRecDepth 100000 in
theorem td_X5_isIn : tb_X5_isIn.all (fun q => decide (decode cX5_isIn q.1 = .ok q.2)) = true := by decide +kernel
def tb_X5_most : TB := [(0, (.iload_n 0, 1)), (1, (.iload_n 1, 1)), (2, (.if_icmp .le 7, 3)), (5, (.iload_n 0, 1)), (6, (.goto 4, 3)), (9, (.iload_n 1, 1)), (10, (.ireturn, 1))]
set_option maxRecDepth 100000 in
theorem td_X5_most : tb_X5_most.all (fun q => decide (decode cX5_most q.1 = .ok q.2)) = true := by decide +kernel
def tb_X5_copies : TB := [(0, (.iconst 0, 1)), (1, (.istore_n 2, 1)), (2, (.iload_n 2, 1)), (3, (.bipush 58, 2)), (5, (.if_icmp .ge 15, 3)), (8, (.aload_n 1, 1)), (9, (.iload_n 2, 1)), (10, (.aload_n 0, 1)), (11, (.iload_n 2, 1)), (12, (.iaload, 1)), (13, (.iastore, 1)), (14, (.iinc 2 1, 3)), (17, (.goto (-15), 3)), (20, (.return_, 1))]
set_option maxRecDepth 100000 in
theorem td_X5_copies : tb_X5_copies.all (fun q => decide (decode cX5_copies q.1 = .ok q.2)) = true := by decide +kernel
def tb_X5_no : TB := [(0, (.aload_n 0, 1)), (1, (.getfield 31, 3)), (4, (.iload_n 1, 1)), (5, (.ineg, 1)), (6, (.dup2, 1)), (7, (.iaload, 1)), (8, (.iconst 1, 1)), (9, (.iadd, 1)), (10, (.iastore, 1)), (11, (.iload_n 1, 1)), (12, (.ireturn, 1))]
set_option maxRecDepth 100000 in
theorem td_X5_no : tb_X5_no.all (fun q => decide (decode cX5_no q.1 = .ok q.2)) = true := by decide +kernel
def tb_X5_noFar : TB := [(0, (.ldc 37, 2)), (2, (.aload_n 0, 1)), (3, (.iload_n 1, 1)), (4, (.invokevirtual 38, 3)), (7, (.isub, 1)), (8, (.ireturn, 1))]
set_option maxRecDepth 100000 in
theorem td_X5_noFar : tb_X5_noFar.all (fun q => decide (decode cX5_noFar q.1 = .ok q.2)) = true := by decide +kernel
def tb_X5_noWide : TB := [(0, (.ldc2_w 42, 3)), (3, (.aload_n 0, 1)), (4, (.iload_n 1, 1)), (5, (.invokevirtual 38, 3)), (8, (.i2l, 1)), (9, (.lsub, 1)), (10, (.lreturn, 1))]
set_option maxRecDepth 100000 in
theorem td_X5_noWide : tb_X5_noWide.all (fun q => decide (decode cX5_noWide q.1 = .ok q.2)) = true := by decide +kernel
def tb_X5_ofP : TB := [(0, (.iconst 3, 1)), (1, (.iconst 3, 1)), (2, (.iload_n 0, 1)), (3, (.imul, 1)), (4, (.iadd, 1)), (5, (.ireturn, 1))]
set_option maxRecDepth 100000 in
theorem td_X5_ofP : tb_X5_ofP.all (fun q => decide (decode cX5_ofP q.1 = .ok q.2)) = true := by decide +kernel
def tb_X5_ofT : TB := [(0, (.bipush 18, 2)), (2, (.iconst 4, 1)), (3, (.iload_n 0, 1)), (4, (.imul, 1)), (5, (.iadd, 1)), (6, (.ireturn, 1))]
set_option maxRecDepth 100000 in
theorem td_X5_ofT : tb_X5_ofT.all (fun q => decide (decode cX5_ofT q.1 = .ok q.2)) = true := by decide +kernel
def tb_X5_isPurpose : TB := [(0, (.iload_n 1, 1)), (1, (.iconst 0, 1)), (2, (.aload_n 0, 1)), (3, (.getfield 9, 3)), (6, (.iconst 0, 1)), (7, (.iaload, 1)), (8, (.iconst 1, 1)), (9, (.isub, 1)), (10, (.invokestatic 44, 3)), (13, (.ireturn, 1))]
set_option maxRecDepth 100000 in
theorem td_X5_isPurpose : tb_X5_isPurpose.all (fun q => decide (decode cX5_isPurpose q.1 = .ok q.2)) = true := by decide +kernel
def tb_X5_isThing : TB := [(0, (.iload_n 1, 1)), (1, (.iconst 0, 1)), (2, (.aload_n 0, 1)), (3, (.getfield 9, 3)), (6, (.iconst 1, 1)), (7, (.iaload, 1)), (8, (.iconst 1, 1)), (9, (.isub, 1)), (10, (.invokestatic 44, 3)), (13, (.ireturn, 1))]
set_option maxRecDepth 100000 in
theorem td_X5_isThing : tb_X5_isThing.all (fun q => decide (decode cX5_isThing q.1 = .ok q.2)) = true := by decide +kernel
def tb_X5_isPlace : TB := [(0, (.iload_n 0, 1)), (1, (.iconst 0, 1)), (2, (.bipush 19, 2)), (4, (.invokestatic 44, 3)), (7, (.ireturn, 1))]
set_option maxRecDepth 100000 in
theorem td_X5_isPlace : tb_X5_isPlace.all (fun q => decide (decode cX5_isPlace q.1 = .ok q.2)) = true := by decide +kernel
def tb_X5_isUp : TB := [(0, (.aload_n 0, 1)), (1, (.iload_n 1, 1)), (2, (.invokestatic 48, 3)), (5, (.iconst 3, 1)), (6, (.iadd, 1)), (7, (.iaload, 1)), (8, (.iconst 1, 1)), (9, (.if_icmp .ne 7, 3)), (12, (.iconst 1, 1)), (13, (.goto 4, 3)), (16, (.iconst 0, 1)), (17, (.ireturn, 1))]
set_option maxRecDepth 100000 in
theorem td_X5_isUp : tb_X5_isUp.all (fun q => decide (decode cX5_isUp q.1 = .ok q.2)) = true := by decide +kernel
def tb_X5_bits : TB := [(0, (.iconst 0, 1)), (1, (.istore_n 1, 1)), (2, (.iconst 0, 1)), (3, (.istore_n 2, 1)), (4, (.iload_n 2, 1)), (5, (.bipush 10, 2)), (7, (.if_icmp .ge 17, 3)), (10, (.iload_n 1, 1)), (11, (.iload_n 0, 1)), (12, (.iload_n 2, 1)), (13, (.ishr, 1)), (14, (.iconst 1, 1)), (15, (.iand, 1)), (16, (.iadd, 1)), (17, (.istore_n 1, 1)), (18, (.iinc 2 1, 3)), (21, (.goto (-17), 3)), (24, (.iload_n 1, 1)), (25, (.ireturn, 1))]
set_option maxRecDepth 100000 in
theorem td_X5_bits : tb_X5_bits.all (fun q => decide (decode cX5_bits q.1 = .ok q.2)) = true := by decide +kernel
def tb_X5_loadOf : TB := [(0, (.iconst 0, 1)), (1, (.istore_n 2, 1)), (2, (.iconst 0, 1)), (3, (.istore_n 3, 1)), (4, (.iload_n 3, 1)), (5, (.aload_n 0, 1)), (6, (.iconst 1, 1)), (7, (.iaload, 1)), (8, (.if_icmp .ge 44, 3)), (11, (.iload_n 2, 1)), (12, (.aload_n 0, 1)), (13, (.iload_n 3, 1)), (14, (.invokestatic 51, 3)), (17, (.ifCond .eq 26, 3)), (20, (.aload_n 0, 1)), (21, (.iload_n 3, 1)), (22, (.invokestatic 48, 3)), (25, (.iconst 2, 1)), (26, (.iadd, 1)), (27, (.iaload, 1)), (28, (.iload_n 1, 1)), (29, (.if_icmp .ne 14, 3)), (32, (.aload_n 0, 1)), (33, (.iload_n 3, 1)), (34, (.invokestatic 48, 3)), (37, (.iconst 0, 1)), (38, (.iadd, 1)), (39, (.iaload, 1)), (40, (.goto 4, 3)), (43, (.iconst 0, 1)), (44, (.iadd, 1)), (45, (.istore_n 2, 1)), (46, (.iinc 3 1, 3)), (49, (.goto (-45), 3)), (52, (.iload_n 2, 1)), (53, (.ireturn, 1))]
set_option maxRecDepth 100000 in
theorem td_X5_loadOf : tb_X5_loadOf.all (fun q => decide (decode cX5_loadOf q.1 = .ok q.2)) = true := by decide +kernel
def tb_X5_spareOf : TB := [(0, (.aload_n 0, 1)), (1, (.iload_n 1, 1)), (2, (.invokestatic 55, 3)), (5, (.iconst 2, 1)), (6, (.iadd, 1)), (7, (.iaload, 1)), (8, (.aload_n 0, 1)), (9, (.iload_n 1, 1)), (10, (.invokestatic 58, 3)), (13, (.isub, 1)), (14, (.ireturn, 1))]
set_option maxRecDepth 100000 in
theorem td_X5_spareOf : tb_X5_spareOf.all (fun q => decide (decode cX5_spareOf q.1 = .ok q.2)) = true := by decide +kernel
def tb_X5_lessBy_0 : TB := [(0, (.aload_n 0, 1)), (1, (.iload_n 1, 1)), (2, (.invokestatic 55, 3)), (5, (.iconst 1, 1)), (6, (.iadd, 1)), (7, (.iaload, 1)), (8, (.istore_n 3, 1)), (9, (.iload_n 2, 1)), (10, (.iload_n 3, 1)), (11, (.iconst 1, 1)), (12, (.iadd, 1)), (13, (.irem, 1)), (14, (.ifCond .ne 7, 3)), (17, (.iconst 1, 1)), (18, (.goto 4, 3)), (21, (.iconst 0, 1)), (22, (.istore 4, 2)), (24, (.aload_n 0, 1)), (25, (.iload_n 1, 1)), (26, (.invokestatic 55, 3)), (29, (.iconst 2, 1)), (30, (.iadd, 1)), (31, (.iaload, 1)), (32, (.bipush 50, 2)), (34, (.if_icmp .lt 7, 3)), (37, (.iconst 0, 1)), (38, (.goto 5, 3)), (41, (.iload 4, 2)), (43, (.istore 5, 2)), (45, (.aload_n 0, 1)), (46, (.iload_n 1, 1)), (47, (.invokestatic 55, 3)), (50, (.iconst 0, 1)), (51, (.iadd, 1)), (52, (.iaload, 1)), (53, (.tableswitch 70 1 5 #[35, 38, 41, 48, 52], 35)), (88, (.iload 4, 2)), (90, (.ireturn, 1)), (91, (.iload 5, 2)), (93, (.ireturn, 1)), (94, (.iload 5, 2)), (96, (.iload_n 3, 1)), (97, (.iconst 3, 1)), (98, (.idiv, 1)), (99, (.iadd, 1)), (100, (.ireturn, 1)), (101, (.iconst 1, 1)), (102, (.iload_n 3, 1)), (103, (.iadd, 1)), (104, (.ireturn, 1)), (105, (.aload_n 0, 1)), (106, (.iload_n 1, 1)), (107, (.invokestatic 58, 3)), (110, (.ifCond .le 11, 3)), (113, (.iconst 2, 1)), (114, (.iconst 1, 1)), (115, (.iload_n 3, 1)), (116, (.iadd, 1)), (117, (.imul, 1)), (118, (.goto 4, 3))]
set_option maxRecDepth 100000 in
theorem td_X5_lessBy_0 : tb_X5_lessBy_0.all (fun q => decide (decode cX5_lessBy q.1 = .ok q.2)) = true := by decide +kernel
def tb_X5_lessBy_1 : TB := [(121, (.iconst 0, 1)), (122, (.ireturn, 1)), (123, (.iconst 1, 1)), (124, (.ireturn, 1))]
set_option maxRecDepth 100000 in
theorem td_X5_lessBy_1 : tb_X5_lessBy_1.all (fun q => decide (decode cX5_lessBy q.1 = .ok q.2)) = true := by decide +kernel
def tb_X5_lessBy : TB := tb_X5_lessBy_0 ++ (tb_X5_lessBy_1)
theorem td_X5_lessBy : tb_X5_lessBy.all (fun q => decide (decode cX5_lessBy q.1 = .ok q.2)) = true := by simp only [tb_X5_lessBy, List.all_append, td_X5_lessBy_0, td_X5_lessBy_1, Bool.and_self]
def tb_X5_whoAt : TB := [(0, (.iconst 0, 1)), (1, (.istore_n 2, 1)), (2, (.iload_n 2, 1)), (3, (.aload_n 0, 1)), (4, (.iconst 1, 1)), (5, (.iaload, 1)), (6, (.if_icmp .ge 23, 3)), (9, (.aload_n 0, 1)), (10, (.iload_n 2, 1)), (11, (.invokestatic 48, 3)), (14, (.iconst 1, 1)), (15, (.iadd, 1)), (16, (.iaload, 1)), (17, (.iload_n 1, 1)), (18, (.if_icmp .ne 5, 3)), (21, (.iload_n 2, 1)), (22, (.ireturn, 1)), (23, (.iinc 2 1, 3)), (26, (.goto (-24), 3)), (29, (.bipush (-9), 2)), (31, (.ireturn, 1))]
set_option maxRecDepth 100000 in
theorem td_X5_whoAt : tb_X5_whoAt.all (fun q => decide (decode cX5_whoAt q.1 = .ok q.2)) = true := by decide +kernel
def tb_X5_fells : TB := [(0, (.iconst 0, 1)), (1, (.istore_n 2, 1)), (2, (.iload_n 1, 1)), (3, (.istore_n 3, 1)), (4, (.aload_n 0, 1)), (5, (.iload_n 3, 1)), (6, (.invokestatic 48, 3)), (9, (.iconst 0, 1)), (10, (.iadd, 1)), (11, (.iaload, 1)), (12, (.istore 4, 2)), (14, (.iload_n 3, 1)), (15, (.ifCond .lt 64, 3)), (18, (.aload_n 0, 1)), (19, (.iload_n 3, 1)), (20, (.invokestatic 51, 3)), (23, (.ifCond .eq 56, 3)), (26, (.aload_n 0, 1)), (27, (.iload_n 3, 1)), (28, (.invokestatic 48, 3)), (31, (.iconst 0, 1)), (32, (.iadd, 1)), (33, (.iaload, 1)), (34, (.iload 4, 2)), (36, (.if_icmp .gt 43, 3)), (39, (.aload_n 0, 1)), (40, (.iload_n 3, 1)), (41, (.invokestatic 48, 3)), (44, (.iconst 0, 1)), (45, (.iadd, 1)), (46, (.iaload, 1)), (47, (.istore 4, 2)), (49, (.aload_n 0, 1)), (50, (.iload_n 3, 1)), (51, (.invokestatic 48, 3)), (54, (.iconst 3, 1)), (55, (.iadd, 1)), (56, (.iconst 0, 1)), (57, (.iastore, 1)), (58, (.iinc 2 1, 3)), (61, (.aload_n 0, 1)), (62, (.aload_n 0, 1)), (63, (.iload_n 3, 1)), (64, (.invokestatic 48, 3)), (67, (.iconst 1, 1)), (68, (.iadd, 1)), (69, (.iaload, 1)), (70, (.iconst 1, 1)), (71, (.iadd, 1)), (72, (.invokestatic 62, 3)), (75, (.istore_n 3, 1)), (76, (.goto (-62), 3)), (79, (.iload_n 2, 1)), (80, (.ireturn, 1))]
set_option maxRecDepth 100000 in
theorem td_X5_fells : tb_X5_fells.all (fun q => decide (decode cX5_fells q.1 = .ok q.2)) = true := by decide +kernel
def tb_X5_heaviestOn_0 : TB := [(0, (.bipush (-9), 2)), (2, (.istore_n 2, 1)), (3, (.iconst 0, 1)), (4, (.istore_n 3, 1)), (5, (.iload_n 3, 1)), (6, (.aload_n 0, 1)), (7, (.iconst 1, 1)), (8, (.iaload, 1)), (9, (.if_icmp .ge 90, 3)), (12, (.aload_n 0, 1)), (13, (.iload_n 3, 1)), (14, (.invokestatic 51, 3)), (17, (.ifCond .eq 76, 3)), (20, (.aload_n 0, 1)), (21, (.iload_n 3, 1)), (22, (.invokestatic 48, 3)), (25, (.iconst 2, 1)), (26, (.iadd, 1)), (27, (.iaload, 1)), (28, (.iload_n 1, 1)), (29, (.if_icmp .eq 6, 3)), (32, (.goto 61, 3)), (35, (.iload_n 2, 1)), (36, (.ifCond .ge 7, 3)), (39, (.iconst 1, 1)), (40, (.goto 20, 3)), (43, (.aload_n 0, 1)), (44, (.iload_n 3, 1)), (45, (.invokestatic 48, 3)), (48, (.iconst 0, 1)), (49, (.iadd, 1)), (50, (.iaload, 1)), (51, (.aload_n 0, 1)), (52, (.iload_n 2, 1)), (53, (.invokestatic 48, 3)), (56, (.iconst 0, 1)), (57, (.iadd, 1)), (58, (.iaload, 1)), (59, (.isub, 1)), (60, (.istore 4, 2)), (62, (.iload 4, 2)), (64, (.ifCond .gt 27, 3)), (67, (.iload 4, 2)), (69, (.ifCond .ne 24, 3)), (72, (.aload_n 0, 1)), (73, (.iload_n 3, 1)), (74, (.invokestatic 48, 3)), (77, (.iconst 1, 1)), (78, (.iadd, 1)), (79, (.iaload, 1)), (80, (.aload_n 0, 1)), (81, (.iload_n 2, 1)), (82, (.invokestatic 48, 3)), (85, (.iconst 1, 1)), (86, (.iadd, 1)), (87, (.iaload, 1)), (88, (.if_icmp .ge 5, 3)), (91, (.iload_n 3, 1)), (92, (.istore_n 2, 1)), (93, (.iinc 3 1, 3))]
set_option maxRecDepth 100000 in
theorem td_X5_heaviestOn_0 : tb_X5_heaviestOn_0.all (fun q => decide (decode cX5_heaviestOn q.1 = .ok q.2)) = true := by decide +kernel
def tb_X5_heaviestOn_1 : TB := [(96, (.goto (-91), 3)), (99, (.iload_n 2, 1)), (100, (.ireturn, 1))]
set_option maxRecDepth 100000 in
theorem td_X5_heaviestOn_1 : tb_X5_heaviestOn_1.all (fun q => decide (decode cX5_heaviestOn q.1 = .ok q.2)) = true := by decide +kernel
def tb_X5_heaviestOn : TB := tb_X5_heaviestOn_0 ++ (tb_X5_heaviestOn_1)
theorem td_X5_heaviestOn : tb_X5_heaviestOn.all (fun q => decide (decode cX5_heaviestOn q.1 = .ok q.2)) = true := by simp only [tb_X5_heaviestOn, List.all_append, td_X5_heaviestOn_0, td_X5_heaviestOn_1, Bool.and_self]
def tb_X5_day_0 : TB := [(0, (.aload_n 1, 1)), (1, (.iconst 2, 1)), (2, (.dup2, 1)), (3, (.iaload, 1)), (4, (.iconst 1, 1)), (5, (.iadd, 1)), (6, (.iastore, 1)), (7, (.iconst 0, 1)), (8, (.istore_n 2, 1)), (9, (.iload_n 2, 1)), (10, (.aload_n 1, 1)), (11, (.iconst 0, 1)), (12, (.iaload, 1)), (13, (.if_icmp .ge 23, 3)), (16, (.aload_n 0, 1)), (17, (.getfield 22, 3)), (20, (.iload_n 2, 1)), (21, (.aload_n 1, 1)), (22, (.iload_n 2, 1)), (23, (.aload_n 1, 1)), (24, (.iconst 2, 1)), (25, (.iaload, 1)), (26, (.invokestatic 65, 3)), (29, (.iastore, 1)), (30, (.iinc 2 1, 3)), (33, (.goto (-24), 3)), (36, (.iconst 0, 1)), (37, (.istore_n 2, 1)), (38, (.iload_n 2, 1)), (39, (.aload_n 1, 1)), (40, (.iconst 0, 1)), (41, (.iaload, 1)), (42, (.if_icmp .ge 36, 3)), (45, (.aload_n 1, 1)), (46, (.iload_n 2, 1)), (47, (.invokestatic 55, 3)), (50, (.iconst 2, 1)), (51, (.iadd, 1)), (52, (.iconst 0, 1)), (53, (.aload_n 1, 1)), (54, (.iload_n 2, 1)), (55, (.invokestatic 55, 3)), (58, (.iconst 2, 1)), (59, (.iadd, 1)), (60, (.iaload, 1)), (61, (.aload_n 0, 1)), (62, (.getfield 22, 3)), (65, (.iload_n 2, 1)), (66, (.iaload, 1)), (67, (.isub, 1)), (68, (.invokestatic 69, 3)), (71, (.iastore, 1)), (72, (.iinc 2 1, 3)), (75, (.goto (-37), 3)), (78, (.iconst 0, 1)), (79, (.istore_n 2, 1)), (80, (.iload_n 2, 1)), (81, (.aload_n 1, 1)), (82, (.iconst 0, 1)), (83, (.iaload, 1))]
set_option maxRecDepth 100000 in
theorem td_X5_day_0 : tb_X5_day_0.all (fun q => decide (decode cX5_day q.1 = .ok q.2)) = true := by decide +kernel
def tb_X5_day_1 : TB := [(84, (.if_icmp .ge 43, 3)), (87, (.aload_n 1, 1)), (88, (.iload_n 2, 1)), (89, (.invokestatic 73, 3)), (92, (.ifCond .ge 11, 3)), (95, (.aload_n 1, 1)), (96, (.iload_n 2, 1)), (97, (.invokestatic 76, 3)), (100, (.goto 5, 3)), (103, (.bipush (-9), 2)), (105, (.istore_n 3, 1)), (106, (.iload_n 3, 1)), (107, (.ifCond .ge 7, 3)), (110, (.iconst 0, 1)), (111, (.goto 8, 3)), (114, (.aload_n 1, 1)), (115, (.iload_n 3, 1)), (116, (.invokestatic 79, 3)), (119, (.istore 4, 2)), (121, (.iinc 2 1, 3)), (124, (.goto (-44), 3)), (127, (.return_, 1))]
set_option maxRecDepth 100000 in
theorem td_X5_day_1 : tb_X5_day_1.all (fun q => decide (decode cX5_day q.1 = .ok q.2)) = true := by decide +kernel
def tb_X5_day : TB := tb_X5_day_0 ++ (tb_X5_day_1)
theorem td_X5_day : tb_X5_day.all (fun q => decide (decode cX5_day q.1 = .ok q.2)) = true := by simp only [tb_X5_day, List.all_append, td_X5_day_0, td_X5_day_1, Bool.and_self]
def tb_X5_daysOn : TB := [(0, (.iconst 0, 1)), (1, (.istore_n 3, 1)), (2, (.iload_n 3, 1)), (3, (.iload_n 2, 1)), (4, (.if_icmp .ge 14, 3)), (7, (.aload_n 0, 1)), (8, (.aload_n 1, 1)), (9, (.invokevirtual 82, 3)), (12, (.iinc 3 1, 3)), (15, (.goto (-13), 3)), (18, (.return_, 1))]
set_option maxRecDepth 100000 in
theorem td_X5_daysOn : tb_X5_daysOn.all (fun q => decide (decode cX5_daysOn q.1 = .ok q.2)) = true := by decide +kernel
def tb_X5_upSet : TB := [(0, (.iconst 0, 1)), (1, (.istore_n 1, 1)), (2, (.iconst 0, 1)), (3, (.istore_n 2, 1)), (4, (.iload_n 2, 1)), (5, (.aload_n 0, 1)), (6, (.iconst 1, 1)), (7, (.iaload, 1)), (8, (.if_icmp .ge 22, 3)), (11, (.iload_n 1, 1)), (12, (.aload_n 0, 1)), (13, (.iload_n 2, 1)), (14, (.invokestatic 48, 3)), (17, (.iconst 3, 1)), (18, (.iadd, 1)), (19, (.iaload, 1)), (20, (.iload_n 2, 1)), (21, (.ishl, 1)), (22, (.ior, 1)), (23, (.istore_n 1, 1)), (24, (.iinc 2 1, 3)), (27, (.goto (-23), 3)), (30, (.iload_n 1, 1)), (31, (.ireturn, 1))]
set_option maxRecDepth 100000 in
theorem td_X5_upSet : tb_X5_upSet.all (fun q => decide (decode cX5_upSet q.1 = .ok q.2)) = true := by decide +kernel
def tb_X5_upIn : TB := [(0, (.aload_n 0, 1)), (1, (.aload_n 0, 1)), (2, (.getfield 13, 3)), (5, (.iload_n 1, 1)), (6, (.invokevirtual 86, 3)), (9, (.aload_n 0, 1)), (10, (.getfield 13, 3)), (13, (.invokestatic 90, 3)), (16, (.invokestatic 94, 3)), (19, (.ireturn, 1))]
set_option maxRecDepth 100000 in
theorem td_X5_upIn : tb_X5_upIn.all (fun q => decide (decode cX5_upIn q.1 = .ok q.2)) = true := by decide +kernel
def tb_X5_letter : TB := [(0, (.iload_n 1, 1)), (1, (.ifCond .ge 10, 3)), (4, (.aload_n 0, 1)), (5, (.bipush (-4), 2)), (7, (.invokevirtual 38, 3)), (10, (.ireturn, 1)), (11, (.iload_n 1, 1)), (12, (.sipush 255, 3)), (15, (.if_icmp .gt 12, 3)), (18, (.aload_n 0, 1)), (19, (.getfield 97, 3)), (22, (.bipush 96, 2)), (24, (.if_icmp .ne 10, 3)), (27, (.aload_n 0, 1)), (28, (.bipush (-6), 2)), (30, (.invokevirtual 38, 3)), (33, (.ireturn, 1)), (34, (.aload_n 0, 1)), (35, (.getfield 25, 3)), (38, (.aload_n 0, 1)), (39, (.getfield 97, 3)), (42, (.iload_n 1, 1)), (43, (.iastore, 1)), (44, (.aload_n 0, 1)), (45, (.dup, 1)), (46, (.getfield 97, 3)), (49, (.iconst 1, 1)), (50, (.iadd, 1)), (51, (.putfield 97, 3)), (54, (.aload_n 0, 1)), (55, (.getfield 97, 3)), (58, (.ireturn, 1))]
set_option maxRecDepth 100000 in
theorem td_X5_letter : tb_X5_letter.all (fun q => decide (decode cX5_letter q.1 = .ok q.2)) = true := by decide +kernel
def tb_X5_here : TB := [(0, (.aload_n 0, 1)), (1, (.getfield 101, 3)), (4, (.aload_n 0, 1)), (5, (.getfield 97, 3)), (8, (.if_icmp .ge 15, 3)), (11, (.aload_n 0, 1)), (12, (.getfield 25, 3)), (15, (.aload_n 0, 1)), (16, (.getfield 101, 3)), (19, (.iaload, 1)), (20, (.goto 4, 3)), (23, (.iconst (-1), 1)), (24, (.ireturn, 1))]
set_option maxRecDepth 100000 in
theorem td_X5_here : tb_X5_here.all (fun q => decide (decode cX5_here q.1 = .ok q.2)) = true := by decide +kernel
def tb_X5_readsNumber : TB := [(0, (.aload_n 0, 1)), (1, (.getfield 34, 3)), (4, (.iload_n 1, 1)), (5, (.iconst 0, 1)), (6, (.iastore, 1)), (7, (.iconst 0, 1)), (8, (.istore_n 3, 1)), (9, (.iload_n 3, 1)), (10, (.iload_n 2, 1)), (11, (.if_icmp .ge 58, 3)), (14, (.aload_n 0, 1)), (15, (.invokevirtual 104, 3)), (18, (.bipush 48, 2)), (20, (.bipush 57, 2)), (22, (.invokestatic 44, 3)), (25, (.ifCond .ne 5, 3)), (28, (.iconst 0, 1)), (29, (.ireturn, 1)), (30, (.aload_n 0, 1)), (31, (.getfield 34, 3)), (34, (.iload_n 1, 1)), (35, (.bipush 10, 2)), (37, (.aload_n 0, 1)), (38, (.getfield 34, 3)), (41, (.iload_n 1, 1)), (42, (.iaload, 1)), (43, (.imul, 1)), (44, (.aload_n 0, 1)), (45, (.invokevirtual 104, 3)), (48, (.iadd, 1)), (49, (.bipush 48, 2)), (51, (.isub, 1)), (52, (.iastore, 1)), (53, (.aload_n 0, 1)), (54, (.dup, 1)), (55, (.getfield 101, 3)), (58, (.iconst 1, 1)), (59, (.iadd, 1)), (60, (.putfield 101, 3)), (63, (.iinc 3 1, 3)), (66, (.goto (-57), 3)), (69, (.iconst 1, 1)), (70, (.ireturn, 1))]
set_option maxRecDepth 100000 in
theorem td_X5_readsNumber : tb_X5_readsNumber.all (fun q => decide (decode cX5_readsNumber q.1 = .ok q.2)) = true := by decide +kernel
def tb_X5_kindBy : TB := [(0, (.iload_n 0, 1)), (1, (.tableswitch 91 104 119 #[81, 91, 91, 91, 89, 91, 91, 85, 79, 91, 91, 91, 91, 91, 83, 87], 79)), (80, (.iconst 0, 1)), (81, (.ireturn, 1)), (82, (.iconst 1, 1)), (83, (.ireturn, 1)), (84, (.iconst 2, 1)), (85, (.ireturn, 1)), (86, (.iconst 3, 1)), (87, (.ireturn, 1)), (88, (.iconst 4, 1)), (89, (.ireturn, 1)), (90, (.iconst 5, 1)), (91, (.ireturn, 1)), (92, (.bipush (-9), 2)), (94, (.ireturn, 1))]
set_option maxRecDepth 100000 in
theorem td_X5_kindBy : tb_X5_kindBy.all (fun q => decide (decode cX5_kindBy q.1 = .ok q.2)) = true := by decide +kernel
def tb_X5_readsKind : TB := [(0, (.aload_n 0, 1)), (1, (.getfield 34, 3)), (4, (.iconst 0, 1)), (5, (.aload_n 0, 1)), (6, (.invokevirtual 104, 3)), (9, (.invokestatic 108, 3)), (12, (.iastore, 1)), (13, (.aload_n 0, 1)), (14, (.dup, 1)), (15, (.getfield 101, 3)), (18, (.aload_n 0, 1)), (19, (.getfield 34, 3)), (22, (.iconst 0, 1)), (23, (.iaload, 1)), (24, (.ifCond .ge 7, 3)), (27, (.iconst 0, 1)), (28, (.goto 4, 3)), (31, (.iconst 1, 1)), (32, (.iadd, 1)), (33, (.putfield 101, 3)), (36, (.aload_n 0, 1)), (37, (.getfield 34, 3)), (40, (.iconst 0, 1)), (41, (.iaload, 1)), (42, (.ifCond .lt 7, 3)), (45, (.iconst 1, 1)), (46, (.goto 4, 3)), (49, (.iconst 0, 1)), (50, (.ireturn, 1))]
set_option maxRecDepth 100000 in
theorem td_X5_readsKind : tb_X5_readsKind.all (fun q => decide (decode cX5_readsKind q.1 = .ok q.2)) = true := by decide +kernel
def tb_X5_readsStatement_0 : TB := [(0, (.aload_n 0, 1)), (1, (.invokevirtual 104, 3)), (4, (.istore_n 1, 1)), (5, (.aload_n 0, 1)), (6, (.dup, 1)), (7, (.getfield 101, 3)), (10, (.iconst 1, 1)), (11, (.iadd, 1)), (12, (.putfield 101, 3)), (15, (.iload_n 1, 1)), (16, (.tableswitch 232 100 117 #[222, 232, 232, 232, 232, 232, 232, 232, 158, 232, 232, 232, 88, 232, 232, 195, 122, 185], 88)), (104, (.aload_n 0, 1)), (105, (.invokevirtual 111, 3)), (108, (.ifCond .eq 25, 3)), (111, (.aload_n 0, 1)), (112, (.iconst 1, 1)), (113, (.iconst 1, 1)), (114, (.invokevirtual 115, 3)), (117, (.ifCond .eq 16, 3)), (120, (.aload_n 0, 1)), (121, (.iconst 2, 1)), (122, (.iconst 2, 1)), (123, (.invokevirtual 115, 3)), (126, (.ifCond .eq 7, 3)), (129, (.iconst 1, 1)), (130, (.goto 4, 3)), (133, (.iconst 0, 1)), (134, (.istore_n 2, 1)), (135, (.goto 125, 3)), (138, (.aload_n 0, 1)), (139, (.iconst 0, 1)), (140, (.iconst 1, 1)), (141, (.invokevirtual 115, 3)), (144, (.ifCond .eq 25, 3)), (147, (.aload_n 0, 1)), (148, (.iconst 1, 1)), (149, (.iconst 2, 1)), (150, (.invokevirtual 115, 3)), (153, (.ifCond .eq 16, 3)), (156, (.aload_n 0, 1)), (157, (.iconst 2, 1)), (158, (.iconst 1, 1)), (159, (.invokevirtual 115, 3)), (162, (.ifCond .eq 7, 3)), (165, (.iconst 1, 1)), (166, (.goto 4, 3)), (169, (.iconst 0, 1)), (170, (.istore_n 2, 1)), (171, (.goto 89, 3)), (174, (.aload_n 0, 1)), (175, (.iconst 0, 1)), (176, (.iconst 1, 1)), (177, (.invokevirtual 115, 3)), (180, (.ifCond .eq 16, 3)), (183, (.aload_n 0, 1)), (184, (.iconst 1, 1)), (185, (.iconst 1, 1)), (186, (.invokevirtual 115, 3)), (189, (.ifCond .eq 7, 3)), (192, (.iconst 1, 1))]
set_option maxRecDepth 100000 in
theorem td_X5_readsStatement_0 : tb_X5_readsStatement_0.all (fun q => decide (decode cX5_readsStatement q.1 = .ok q.2)) = true := by decide +kernel
def tb_X5_readsStatement_1 : TB := [(193, (.goto 4, 3)), (196, (.iconst 0, 1)), (197, (.istore_n 2, 1)), (198, (.goto 62, 3)), (201, (.aload_n 0, 1)), (202, (.iconst 0, 1)), (203, (.iconst 1, 1)), (204, (.invokevirtual 115, 3)), (207, (.istore_n 2, 1)), (208, (.goto 52, 3)), (211, (.aload_n 0, 1)), (212, (.iconst 0, 1)), (213, (.iconst 1, 1)), (214, (.invokevirtual 115, 3)), (217, (.ifCond .eq 16, 3)), (220, (.aload_n 0, 1)), (221, (.iconst 1, 1)), (222, (.iconst 2, 1)), (223, (.invokevirtual 115, 3)), (226, (.ifCond .eq 7, 3)), (229, (.iconst 1, 1)), (230, (.goto 4, 3)), (233, (.iconst 0, 1)), (234, (.istore_n 2, 1)), (235, (.goto 25, 3)), (238, (.aload_n 0, 1)), (239, (.iconst 0, 1)), (240, (.iconst 2, 1)), (241, (.invokevirtual 115, 3)), (244, (.istore_n 2, 1)), (245, (.goto 15, 3)), (248, (.aload_n 0, 1)), (249, (.dup, 1)), (250, (.getfield 101, 3)), (253, (.iconst 1, 1)), (254, (.isub, 1)), (255, (.putfield 101, 3)), (258, (.iconst 0, 1)), (259, (.ireturn, 1)), (260, (.iload_n 2, 1)), (261, (.ifCond .eq 12, 3)), (264, (.aload_n 0, 1)), (265, (.invokevirtual 104, 3)), (268, (.bipush 59, 2)), (270, (.if_icmp .eq 5, 3)), (273, (.iconst 0, 1)), (274, (.ireturn, 1)), (275, (.aload_n 0, 1)), (276, (.dup, 1)), (277, (.getfield 101, 3)), (280, (.iconst 1, 1)), (281, (.iadd, 1)), (282, (.putfield 101, 3)), (285, (.iconst 1, 1)), (286, (.ireturn, 1))]
set_option maxRecDepth 100000 in
theorem td_X5_readsStatement_1 : tb_X5_readsStatement_1.all (fun q => decide (decode cX5_readsStatement q.1 = .ok q.2)) = true := by decide +kernel
def tb_X5_readsStatement : TB := tb_X5_readsStatement_0 ++ (tb_X5_readsStatement_1)
theorem td_X5_readsStatement : tb_X5_readsStatement.all (fun q => decide (decode cX5_readsStatement q.1 = .ok q.2)) = true := by simp only [tb_X5_readsStatement, List.all_append, td_X5_readsStatement_0, td_X5_readsStatement_1, Bool.and_self]
def tb_X5_addsPurpose : TB := [(0, (.aload_n 0, 1)), (1, (.getfield 9, 3)), (4, (.iconst 0, 1)), (5, (.iaload, 1)), (6, (.iconst 5, 1)), (7, (.if_icmp .ne 5, 3)), (10, (.iconst 0, 1)), (11, (.ireturn, 1)), (12, (.aload_n 0, 1)), (13, (.getfield 9, 3)), (16, (.iconst 0, 1)), (17, (.iaload, 1)), (18, (.invokestatic 55, 3)), (21, (.istore 4, 2)), (23, (.aload_n 0, 1)), (24, (.getfield 9, 3)), (27, (.iload 4, 2)), (29, (.iconst 0, 1)), (30, (.iadd, 1)), (31, (.iload_n 1, 1)), (32, (.iastore, 1)), (33, (.aload_n 0, 1)), (34, (.getfield 9, 3)), (37, (.iload 4, 2)), (39, (.iconst 1, 1)), (40, (.iadd, 1)), (41, (.iload_n 2, 1)), (42, (.iastore, 1)), (43, (.aload_n 0, 1)), (44, (.getfield 9, 3)), (47, (.iload 4, 2)), (49, (.iconst 2, 1)), (50, (.iadd, 1)), (51, (.iload_n 3, 1)), (52, (.iastore, 1)), (53, (.aload_n 0, 1)), (54, (.getfield 9, 3)), (57, (.iconst 0, 1)), (58, (.dup2, 1)), (59, (.iaload, 1)), (60, (.iconst 1, 1)), (61, (.iadd, 1)), (62, (.iastore, 1)), (63, (.iconst 1, 1)), (64, (.ireturn, 1))]
set_option maxRecDepth 100000 in
theorem td_X5_addsPurpose : tb_X5_addsPurpose.all (fun q => decide (decode cX5_addsPurpose q.1 = .ok q.2)) = true := by decide +kernel
def tb_X5_addsThing_0 : TB := [(0, (.iload_n 1, 1)), (1, (.iconst 1, 1)), (2, (.if_icmp .lt 40, 3)), (5, (.iload_n 2, 1)), (6, (.invokestatic 119, 3)), (9, (.ifCond .eq 33, 3)), (12, (.aload_n 0, 1)), (13, (.getfield 9, 3)), (16, (.iload_n 2, 1)), (17, (.invokestatic 62, 3)), (20, (.ifCond .ge 22, 3)), (23, (.aload_n 0, 1)), (24, (.iload_n 3, 1)), (25, (.invokevirtual 123, 3)), (28, (.ifCond .eq 14, 3)), (31, (.aload_n 0, 1)), (32, (.getfield 9, 3)), (35, (.iconst 1, 1)), (36, (.iaload, 1)), (37, (.bipush 10, 2)), (39, (.if_icmp .ne 5, 3)), (42, (.iconst 0, 1)), (43, (.ireturn, 1)), (44, (.aload_n 0, 1)), (45, (.getfield 9, 3)), (48, (.iconst 1, 1)), (49, (.iaload, 1)), (50, (.invokestatic 48, 3)), (53, (.istore 4, 2)), (55, (.aload_n 0, 1)), (56, (.getfield 9, 3)), (59, (.iload 4, 2)), (61, (.iconst 0, 1)), (62, (.iadd, 1)), (63, (.iload_n 1, 1)), (64, (.iastore, 1)), (65, (.aload_n 0, 1)), (66, (.getfield 9, 3)), (69, (.iload 4, 2)), (71, (.iconst 1, 1)), (72, (.iadd, 1)), (73, (.iload_n 2, 1)), (74, (.iastore, 1)), (75, (.aload_n 0, 1)), (76, (.getfield 9, 3)), (79, (.iload 4, 2)), (81, (.iconst 2, 1)), (82, (.iadd, 1)), (83, (.iload_n 3, 1)), (84, (.iastore, 1)), (85, (.aload_n 0, 1)), (86, (.getfield 9, 3)), (89, (.iload 4, 2)), (91, (.iconst 3, 1)), (92, (.iadd, 1)), (93, (.iconst 1, 1)), (94, (.iastore, 1)), (95, (.aload_n 0, 1)), (96, (.getfield 9, 3)), (99, (.iconst 1, 1))]
set_option maxRecDepth 100000 in
theorem td_X5_addsThing_0 : tb_X5_addsThing_0.all (fun q => decide (decode cX5_addsThing q.1 = .ok q.2)) = true := by decide +kernel
def tb_X5_addsThing_1 : TB := [(100, (.dup2, 1)), (101, (.iaload, 1)), (102, (.iconst 1, 1)), (103, (.iadd, 1)), (104, (.iastore, 1)), (105, (.iconst 1, 1)), (106, (.ireturn, 1))]
set_option maxRecDepth 100000 in
theorem td_X5_addsThing_1 : tb_X5_addsThing_1.all (fun q => decide (decode cX5_addsThing q.1 = .ok q.2)) = true := by decide +kernel
def tb_X5_addsThing : TB := tb_X5_addsThing_0 ++ (tb_X5_addsThing_1)
theorem td_X5_addsThing : tb_X5_addsThing.all (fun q => decide (decode cX5_addsThing q.1 = .ok q.2)) = true := by simp only [tb_X5_addsThing, List.all_append, td_X5_addsThing_0, td_X5_addsThing_1, Bool.and_self]
def tb_X5_isDone_0 : TB := [(0, (.aload_n 0, 1)), (1, (.getfield 34, 3)), (4, (.iconst 0, 1)), (5, (.iaload, 1)), (6, (.istore_n 2, 1)), (7, (.aload_n 0, 1)), (8, (.getfield 34, 3)), (11, (.iconst 1, 1)), (12, (.iaload, 1)), (13, (.istore_n 3, 1)), (14, (.iload_n 1, 1)), (15, (.tableswitch 159 108 117 #[79, 159, 159, 159, 53, 159, 159, 135, 66, 111], 53)), (68, (.aload_n 0, 1)), (69, (.iload_n 2, 1)), (70, (.iload_n 3, 1)), (71, (.aload_n 0, 1)), (72, (.getfield 34, 3)), (75, (.iconst 2, 1)), (76, (.iaload, 1)), (77, (.invokevirtual 126, 3)), (80, (.ireturn, 1)), (81, (.aload_n 0, 1)), (82, (.iload_n 2, 1)), (83, (.iload_n 3, 1)), (84, (.aload_n 0, 1)), (85, (.getfield 34, 3)), (88, (.iconst 2, 1)), (89, (.iaload, 1)), (90, (.invokevirtual 129, 3)), (93, (.ireturn, 1)), (94, (.aload_n 0, 1)), (95, (.iload_n 2, 1)), (96, (.invokevirtual 132, 3)), (99, (.ifCond .eq 11, 3)), (102, (.aload_n 0, 1)), (103, (.iload_n 3, 1)), (104, (.invokevirtual 123, 3)), (107, (.ifCond .ne 5, 3)), (110, (.iconst 0, 1)), (111, (.ireturn, 1)), (112, (.aload_n 0, 1)), (113, (.getfield 9, 3)), (116, (.iload_n 2, 1)), (117, (.invokestatic 48, 3)), (120, (.iconst 2, 1)), (121, (.iadd, 1)), (122, (.iload_n 3, 1)), (123, (.iastore, 1)), (124, (.iconst 1, 1)), (125, (.ireturn, 1)), (126, (.aload_n 0, 1)), (127, (.iload_n 2, 1)), (128, (.invokevirtual 132, 3)), (131, (.ifCond .ne 5, 3)), (134, (.iconst 0, 1)), (135, (.ireturn, 1)), (136, (.aload_n 0, 1)), (137, (.getfield 9, 3)), (140, (.iload_n 2, 1)), (141, (.invokestatic 48, 3))]
set_option maxRecDepth 100000 in
theorem td_X5_isDone_0 : tb_X5_isDone_0.all (fun q => decide (decode cX5_isDone q.1 = .ok q.2)) = true := by decide +kernel
def tb_X5_isDone_1 : TB := [(144, (.iconst 3, 1)), (145, (.iadd, 1)), (146, (.iconst 1, 1)), (147, (.iastore, 1)), (148, (.iconst 1, 1)), (149, (.ireturn, 1)), (150, (.aload_n 0, 1)), (151, (.iload_n 2, 1)), (152, (.invokevirtual 123, 3)), (155, (.ifCond .ne 5, 3)), (158, (.iconst 0, 1)), (159, (.ireturn, 1)), (160, (.aload_n 0, 1)), (161, (.getfield 9, 3)), (164, (.iload_n 2, 1)), (165, (.invokestatic 55, 3)), (168, (.iconst 2, 1)), (169, (.iadd, 1)), (170, (.iload_n 3, 1)), (171, (.iastore, 1)), (172, (.iconst 1, 1)), (173, (.ireturn, 1)), (174, (.iload_n 2, 1)), (175, (.iconst 1, 1)), (176, (.bipush 60, 2)), (178, (.invokestatic 44, 3)), (181, (.ifCond .eq 17, 3)), (184, (.aload_n 0, 1)), (185, (.getfield 9, 3)), (188, (.iconst 2, 1)), (189, (.iaload, 1)), (190, (.iload_n 2, 1)), (191, (.iadd, 1)), (192, (.sipush 999, 3)), (195, (.if_icmp .le 5, 3)), (198, (.iconst 0, 1)), (199, (.ireturn, 1)), (200, (.aload_n 0, 1)), (201, (.aload_n 0, 1)), (202, (.getfield 9, 3)), (205, (.iload_n 2, 1)), (206, (.invokevirtual 86, 3)), (209, (.iconst 1, 1)), (210, (.ireturn, 1))]
set_option maxRecDepth 100000 in
theorem td_X5_isDone_1 : tb_X5_isDone_1.all (fun q => decide (decode cX5_isDone q.1 = .ok q.2)) = true := by decide +kernel
def tb_X5_isDone : TB := tb_X5_isDone_0 ++ (tb_X5_isDone_1)
theorem td_X5_isDone : tb_X5_isDone.all (fun q => decide (decode cX5_isDone q.1 = .ok q.2)) = true := by simp only [tb_X5_isDone, List.all_append, td_X5_isDone_0, td_X5_isDone_1, Bool.and_self]
def tb_X5_rack_0 : TB := [(0, (.aload_n 0, 1)), (1, (.iconst 0, 1)), (2, (.putfield 101, 3)), (5, (.iconst 0, 1)), (6, (.istore_n 1, 1)), (7, (.bipush (-9), 2)), (9, (.istore_n 2, 1)), (10, (.aload_n 0, 1)), (11, (.invokevirtual 135, 3)), (14, (.ifCond .ne 12, 3)), (17, (.sipush (-1000), 3)), (20, (.aload_n 0, 1)), (21, (.getfield 101, 3)), (24, (.isub, 1)), (25, (.istore_n 2, 1)), (26, (.iinc 1 1, 3)), (29, (.iload_n 2, 1)), (30, (.bipush (-9), 2)), (32, (.if_icmp .ne 14, 3)), (35, (.aload_n 0, 1)), (36, (.getfield 101, 3)), (39, (.aload_n 0, 1)), (40, (.getfield 97, 3)), (43, (.if_icmp .lt (-33), 3)), (46, (.aload_n 0, 1)), (47, (.getfield 9, 3)), (50, (.aload_n 0, 1)), (51, (.getfield 19, 3)), (54, (.invokestatic 138, 3)), (57, (.aload_n 0, 1)), (58, (.iconst 0, 1)), (59, (.putfield 101, 3)), (62, (.iload_n 2, 1)), (63, (.bipush (-9), 2)), (65, (.if_icmp .ne 63, 3)), (68, (.aload_n 0, 1)), (69, (.getfield 101, 3)), (72, (.aload_n 0, 1)), (73, (.getfield 97, 3)), (76, (.if_icmp .ge 52, 3)), (79, (.aload_n 0, 1)), (80, (.getfield 101, 3)), (83, (.istore_n 3, 1)), (84, (.aload_n 0, 1)), (85, (.invokevirtual 104, 3)), (88, (.istore 4, 2)), (90, (.aload_n 0, 1)), (91, (.invokevirtual 135, 3)), (94, (.istore 5, 2)), (96, (.aload_n 0, 1)), (97, (.iload 4, 2)), (99, (.invokevirtual 142, 3)), (102, (.ifCond .eq 6, 3)), (105, (.goto (-43), 3)), (108, (.sipush (-2000), 3)), (111, (.iload_n 3, 1)), (112, (.isub, 1)), (113, (.istore_n 2, 1)), (114, (.aload_n 0, 1)), (115, (.getfield 19, 3))]
set_option maxRecDepth 100000 in
theorem td_X5_rack_0 : tb_X5_rack_0.all (fun q => decide (decode cX5_rack q.1 = .ok q.2)) = true := by decide +kernel
def tb_X5_rack_1 : TB := [(118, (.aload_n 0, 1)), (119, (.getfield 9, 3)), (122, (.invokestatic 138, 3)), (125, (.goto (-63), 3)), (128, (.aload_n 0, 1)), (129, (.iconst 0, 1)), (130, (.putfield 97, 3)), (133, (.iload_n 2, 1)), (134, (.bipush (-9), 2)), (136, (.if_icmp .ne 7, 3)), (139, (.iload_n 1, 1)), (140, (.goto 4, 3)), (143, (.iload_n 2, 1)), (144, (.ireturn, 1))]
set_option maxRecDepth 100000 in
theorem td_X5_rack_1 : tb_X5_rack_1.all (fun q => decide (decode cX5_rack q.1 = .ok q.2)) = true := by decide +kernel
def tb_X5_rack : TB := tb_X5_rack_0 ++ (tb_X5_rack_1)
theorem td_X5_rack : tb_X5_rack.all (fun q => decide (decode cX5_rack q.1 = .ok q.2)) = true := by simp only [tb_X5_rack, List.all_append, td_X5_rack_0, td_X5_rack_1, Bool.and_self]
def tb_X5_purpose : TB := [(0, (.aload_n 0, 1)), (1, (.iload_n 1, 1)), (2, (.invokevirtual 123, 3)), (5, (.ifCond .ne 9, 3)), (8, (.aload_n 0, 1)), (9, (.iconst (-1), 1)), (10, (.invokevirtual 38, 3)), (13, (.ireturn, 1)), (14, (.iload_n 2, 1)), (15, (.iconst 0, 1)), (16, (.iconst 2, 1)), (17, (.invokestatic 44, 3)), (20, (.ifCond .eq 15, 3)), (23, (.aload_n 0, 1)), (24, (.getfield 9, 3)), (27, (.iload_n 1, 1)), (28, (.invokestatic 55, 3)), (31, (.iload_n 2, 1)), (32, (.iadd, 1)), (33, (.iaload, 1)), (34, (.ireturn, 1)), (35, (.iload_n 2, 1)), (36, (.iconst 3, 1)), (37, (.if_icmp .ne 14, 3)), (40, (.aload_n 0, 1)), (41, (.getfield 9, 3)), (44, (.iload_n 1, 1)), (45, (.invokestatic 58, 3)), (48, (.goto 33, 3)), (51, (.iload_n 2, 1)), (52, (.iconst 4, 1)), (53, (.if_icmp .ne 22, 3)), (56, (.aload_n 0, 1)), (57, (.getfield 9, 3)), (60, (.iload_n 1, 1)), (61, (.aload_n 0, 1)), (62, (.getfield 9, 3)), (65, (.iconst 2, 1)), (66, (.iaload, 1)), (67, (.iconst 1, 1)), (68, (.iadd, 1)), (69, (.invokestatic 65, 3)), (72, (.goto 9, 3)), (75, (.aload_n 0, 1)), (76, (.bipush (-2), 2)), (78, (.invokevirtual 38, 3)), (81, (.ireturn, 1))]
set_option maxRecDepth 100000 in
theorem td_X5_purpose : tb_X5_purpose.all (fun q => decide (decode cX5_purpose q.1 = .ok q.2)) = true := by decide +kernel
def tb_X5_spare : TB := [(0, (.aload_n 0, 1)), (1, (.iload_n 1, 1)), (2, (.invokevirtual 123, 3)), (5, (.ifCond .eq 14, 3)), (8, (.aload_n 0, 1)), (9, (.getfield 9, 3)), (12, (.iload_n 1, 1)), (13, (.invokestatic 73, 3)), (16, (.goto 8, 3)), (19, (.aload_n 0, 1)), (20, (.iconst (-1), 1)), (21, (.invokevirtual 145, 3)), (24, (.ireturn, 1))]
set_option maxRecDepth 100000 in
theorem td_X5_spare : tb_X5_spare.all (fun q => decide (decode cX5_spare q.1 = .ok q.2)) = true := by decide +kernel
def tb_X5_thing : TB := [(0, (.aload_n 0, 1)), (1, (.iload_n 1, 1)), (2, (.invokevirtual 132, 3)), (5, (.ifCond .ne 9, 3)), (8, (.aload_n 0, 1)), (9, (.iconst (-1), 1)), (10, (.invokevirtual 38, 3)), (13, (.ireturn, 1)), (14, (.iload_n 2, 1)), (15, (.iconst 0, 1)), (16, (.iconst 3, 1)), (17, (.invokestatic 44, 3)), (20, (.ifCond .eq 17, 3)), (23, (.aload_n 0, 1)), (24, (.getfield 9, 3)), (27, (.iload_n 1, 1)), (28, (.invokestatic 48, 3)), (31, (.iload_n 2, 1)), (32, (.iadd, 1)), (33, (.iaload, 1)), (34, (.goto 9, 3)), (37, (.aload_n 0, 1)), (38, (.bipush (-2), 2)), (40, (.invokevirtual 38, 3)), (43, (.ireturn, 1))]
set_option maxRecDepth 100000 in
theorem td_X5_thing : tb_X5_thing.all (fun q => decide (decode cX5_thing q.1 = .ok q.2)) = true := by decide +kernel
def tb_X5_at : TB := [(0, (.iload_n 1, 1)), (1, (.invokestatic 119, 3)), (4, (.ifCond .eq 14, 3)), (7, (.aload_n 0, 1)), (8, (.getfield 9, 3)), (11, (.iload_n 1, 1)), (12, (.invokestatic 62, 3)), (15, (.goto 8, 3)), (18, (.aload_n 0, 1)), (19, (.iconst (-1), 1)), (20, (.invokevirtual 38, 3)), (23, (.ireturn, 1))]
set_option maxRecDepth 100000 in
theorem td_X5_at : tb_X5_at.all (fun q => decide (decode cX5_at q.1 = .ok q.2)) = true := by decide +kernel
def tb_X5_leans : TB := [(0, (.aload_n 0, 1)), (1, (.iload_n 1, 1)), (2, (.invokevirtual 132, 3)), (5, (.ifCond .eq 11, 3)), (8, (.aload_n 0, 1)), (9, (.iload_n 2, 1)), (10, (.invokevirtual 123, 3)), (13, (.ifCond .ne 9, 3)), (16, (.aload_n 0, 1)), (17, (.iconst (-1), 1)), (18, (.invokevirtual 38, 3)), (21, (.ireturn, 1)), (22, (.aload_n 0, 1)), (23, (.getfield 9, 3)), (26, (.iload_n 1, 1)), (27, (.invokestatic 48, 3)), (30, (.iconst 2, 1)), (31, (.iadd, 1)), (32, (.iaload, 1)), (33, (.istore_n 3, 1)), (34, (.aload_n 0, 1)), (35, (.getfield 9, 3)), (38, (.iload_n 1, 1)), (39, (.invokestatic 48, 3)), (42, (.iconst 2, 1)), (43, (.iadd, 1)), (44, (.iload_n 2, 1)), (45, (.iastore, 1)), (46, (.iload_n 3, 1)), (47, (.ireturn, 1))]
set_option maxRecDepth 100000 in
theorem td_X5_leans : tb_X5_leans.all (fun q => decide (decode cX5_leans q.1 = .ok q.2)) = true := by decide +kernel
def tb_X5_moves : TB := [(0, (.aload_n 0, 1)), (1, (.iload_n 1, 1)), (2, (.invokevirtual 132, 3)), (5, (.ifCond .eq 10, 3)), (8, (.iload_n 2, 1)), (9, (.invokestatic 119, 3)), (12, (.ifCond .ne 9, 3)), (15, (.aload_n 0, 1)), (16, (.iconst (-1), 1)), (17, (.invokevirtual 38, 3)), (20, (.ireturn, 1)), (21, (.aload_n 0, 1)), (22, (.getfield 9, 3)), (25, (.iload_n 2, 1)), (26, (.invokestatic 62, 3)), (29, (.istore_n 3, 1)), (30, (.iload_n 3, 1)), (31, (.ifCond .lt 15, 3)), (34, (.iload_n 3, 1)), (35, (.iload_n 1, 1)), (36, (.if_icmp .eq 10, 3)), (39, (.aload_n 0, 1)), (40, (.bipush (-3), 2)), (42, (.invokevirtual 38, 3)), (45, (.ireturn, 1)), (46, (.aload_n 0, 1)), (47, (.getfield 9, 3)), (50, (.iload_n 1, 1)), (51, (.invokestatic 48, 3)), (54, (.iconst 1, 1)), (55, (.iadd, 1)), (56, (.iaload, 1)), (57, (.istore 4, 2)), (59, (.aload_n 0, 1)), (60, (.getfield 9, 3)), (63, (.iload_n 1, 1)), (64, (.invokestatic 48, 3)), (67, (.iconst 1, 1)), (68, (.iadd, 1)), (69, (.iload_n 2, 1)), (70, (.iastore, 1)), (71, (.iload 4, 2)), (73, (.ireturn, 1))]
set_option maxRecDepth 100000 in
theorem td_X5_moves : tb_X5_moves.all (fun q => decide (decode cX5_moves q.1 = .ok q.2)) = true := by decide +kernel
def tb_X5_setsUp : TB := [(0, (.aload_n 0, 1)), (1, (.iload_n 1, 1)), (2, (.invokevirtual 132, 3)), (5, (.ifCond .ne 9, 3)), (8, (.aload_n 0, 1)), (9, (.iconst (-1), 1)), (10, (.invokevirtual 38, 3)), (13, (.ireturn, 1)), (14, (.aload_n 0, 1)), (15, (.getfield 9, 3)), (18, (.iload_n 1, 1)), (19, (.invokestatic 48, 3)), (22, (.iconst 3, 1)), (23, (.iadd, 1)), (24, (.iaload, 1)), (25, (.istore_n 2, 1)), (26, (.aload_n 0, 1)), (27, (.getfield 9, 3)), (30, (.iload_n 1, 1)), (31, (.invokestatic 48, 3)), (34, (.iconst 3, 1)), (35, (.iadd, 1)), (36, (.iconst 1, 1)), (37, (.iastore, 1)), (38, (.iconst 1, 1)), (39, (.iload_n 2, 1)), (40, (.isub, 1)), (41, (.ireturn, 1))]
set_option maxRecDepth 100000 in
theorem td_X5_setsUp : tb_X5_setsUp.all (fun q => decide (decode cX5_setsUp q.1 = .ok q.2)) = true := by decide +kernel
def tb_X5_wrongUp : TB := [(0, (.aload_n 0, 1)), (1, (.iload_n 1, 1)), (2, (.invokevirtual 132, 3)), (5, (.ifCond .ne 7, 3)), (8, (.iconst (-1), 1)), (9, (.goto 20, 3)), (12, (.aload_n 0, 1)), (13, (.getfield 9, 3)), (16, (.iload_n 1, 1)), (17, (.invokestatic 51, 3)), (20, (.ifCond .eq 7, 3)), (23, (.iconst 0, 1)), (24, (.goto 5, 3)), (27, (.bipush (-3), 2)), (29, (.ireturn, 1))]
set_option maxRecDepth 100000 in
theorem td_X5_wrongUp : tb_X5_wrongUp.all (fun q => decide (decode cX5_wrongUp q.1 = .ok q.2)) = true := by decide +kernel
def tb_X5_pushes : TB := [(0, (.aload_n 0, 1)), (1, (.iload_n 1, 1)), (2, (.invokevirtual 148, 3)), (5, (.istore_n 2, 1)), (6, (.iload_n 2, 1)), (7, (.ifCond .eq 11, 3)), (10, (.aload_n 0, 1)), (11, (.iload_n 2, 1)), (12, (.invokevirtual 38, 3)), (15, (.goto 11, 3)), (18, (.aload_n 0, 1)), (19, (.getfield 9, 3)), (22, (.iload_n 1, 1)), (23, (.invokestatic 79, 3)), (26, (.ireturn, 1))]
set_option maxRecDepth 100000 in
theorem td_X5_pushes : tb_X5_pushes.all (fun q => decide (decode cX5_pushes q.1 = .ok q.2)) = true := by decide +kernel
def tb_X5_wrongBy : TB := [(0, (.iload_n 0, 1)), (1, (.ifCond .ge 8, 3)), (4, (.bipush (-4), 2)), (6, (.goto 14, 3)), (9, (.iload_n 0, 1)), (10, (.iload_n 1, 1)), (11, (.if_icmp .le 8, 3)), (14, (.bipush (-6), 2)), (16, (.goto 4, 3)), (19, (.iconst 0, 1)), (20, (.ireturn, 1))]
set_option maxRecDepth 100000 in
theorem td_X5_wrongBy : tb_X5_wrongBy.all (fun q => decide (decode cX5_wrongBy q.1 = .ok q.2)) = true := by decide +kernel
def tb_X5_strong : TB := [(0, (.aload_n 0, 1)), (1, (.iload_n 1, 1)), (2, (.invokevirtual 123, 3)), (5, (.ifCond .eq 12, 3)), (8, (.iload_n 2, 1)), (9, (.bipush 99, 2)), (11, (.invokestatic 151, 3)), (14, (.goto 4, 3)), (17, (.iconst (-1), 1)), (18, (.istore_n 3, 1)), (19, (.iload_n 3, 1)), (20, (.ifCond .eq 9, 3)), (23, (.aload_n 0, 1)), (24, (.iload_n 3, 1)), (25, (.invokevirtual 38, 3)), (28, (.ireturn, 1)), (29, (.aload_n 0, 1)), (30, (.getfield 9, 3)), (33, (.iload_n 1, 1)), (34, (.invokestatic 55, 3)), (37, (.iconst 2, 1)), (38, (.iadd, 1)), (39, (.iaload, 1)), (40, (.istore 4, 2)), (42, (.aload_n 0, 1)), (43, (.getfield 9, 3)), (46, (.iload_n 1, 1)), (47, (.invokestatic 55, 3)), (50, (.iconst 2, 1)), (51, (.iadd, 1)), (52, (.iload_n 2, 1)), (53, (.iastore, 1)), (54, (.iload 4, 2)), (56, (.ireturn, 1))]
set_option maxRecDepth 100000 in
theorem td_X5_strong : tb_X5_strong.all (fun q => decide (decode cX5_strong q.1 = .ok q.2)) = true := by decide +kernel
def tb_X5_turn : TB := [(0, (.aload_n 0, 1)), (1, (.iload_n 1, 1)), (2, (.invokevirtual 123, 3)), (5, (.ifCond .ne 7, 3)), (8, (.iconst (-1), 1)), (9, (.goto 23, 3)), (12, (.iload_n 2, 1)), (13, (.iconst 0, 1)), (14, (.iconst 5, 1)), (15, (.invokestatic 44, 3)), (18, (.ifCond .ne 8, 3)), (21, (.bipush (-2), 2)), (23, (.goto 9, 3)), (26, (.iload_n 3, 1)), (27, (.bipush 9, 2)), (29, (.invokestatic 151, 3)), (32, (.istore 4, 2)), (34, (.iload 4, 2)), (36, (.ifCond .eq 10, 3)), (39, (.aload_n 0, 1)), (40, (.iload 4, 2)), (42, (.invokevirtual 38, 3)), (45, (.ireturn, 1)), (46, (.iload_n 1, 1)), (47, (.invokestatic 55, 3)), (50, (.istore 5, 2)), (52, (.bipush 10, 2)), (54, (.aload_n 0, 1)), (55, (.getfield 9, 3)), (58, (.iload 5, 2)), (60, (.iconst 0, 1)), (61, (.iadd, 1)), (62, (.iaload, 1)), (63, (.imul, 1)), (64, (.aload_n 0, 1)), (65, (.getfield 9, 3)), (68, (.iload 5, 2)), (70, (.iconst 1, 1)), (71, (.iadd, 1)), (72, (.iaload, 1)), (73, (.iadd, 1)), (74, (.istore 6, 2)), (76, (.aload_n 0, 1)), (77, (.getfield 9, 3)), (80, (.iload 5, 2)), (82, (.iconst 0, 1)), (83, (.iadd, 1)), (84, (.iload_n 2, 1)), (85, (.iastore, 1)), (86, (.aload_n 0, 1)), (87, (.getfield 9, 3)), (90, (.iload 5, 2)), (92, (.iconst 1, 1)), (93, (.iadd, 1)), (94, (.iload_n 3, 1)), (95, (.iastore, 1)), (96, (.iload 6, 2)), (98, (.ireturn, 1))]
set_option maxRecDepth 100000 in
theorem td_X5_turn : tb_X5_turn.all (fun q => decide (decode cX5_turn q.1 = .ok q.2)) = true := by decide +kernel
def tb_X5_days : TB := [(0, (.iload_n 1, 1)), (1, (.iconst 1, 1)), (2, (.if_icmp .ge 10, 3)), (5, (.aload_n 0, 1)), (6, (.bipush (-4), 2)), (8, (.invokevirtual 38, 3)), (11, (.ireturn, 1)), (12, (.iload_n 1, 1)), (13, (.bipush 60, 2)), (15, (.if_icmp .gt 17, 3)), (18, (.aload_n 0, 1)), (19, (.getfield 9, 3)), (22, (.iconst 2, 1)), (23, (.iaload, 1)), (24, (.iload_n 1, 1)), (25, (.iadd, 1)), (26, (.sipush 999, 3)), (29, (.if_icmp .le 10, 3)), (32, (.aload_n 0, 1)), (33, (.bipush (-6), 2)), (35, (.invokevirtual 38, 3)), (38, (.ireturn, 1)), (39, (.aload_n 0, 1)), (40, (.aload_n 0, 1)), (41, (.getfield 9, 3)), (44, (.iload_n 1, 1)), (45, (.invokevirtual 86, 3)), (48, (.aload_n 0, 1)), (49, (.getfield 9, 3)), (52, (.invokestatic 90, 3)), (55, (.invokestatic 94, 3)), (58, (.ireturn, 1))]
set_option maxRecDepth 100000 in
theorem td_X5_days : tb_X5_days.all (fun q => decide (decode cX5_days q.1 = .ok q.2)) = true := by decide +kernel
def tb_X5_takesOn : TB := [(0, (.aload_n 0, 1)), (1, (.getfield 9, 3)), (4, (.aload_n 0, 1)), (5, (.getfield 13, 3)), (8, (.invokestatic 138, 3)), (11, (.aload_n 0, 1)), (12, (.aload_n 0, 1)), (13, (.getfield 13, 3)), (16, (.iload_n 1, 1)), (17, (.invokevirtual 86, 3)), (20, (.return_, 1))]
set_option maxRecDepth 100000 in
theorem td_X5_takesOn : tb_X5_takesOn.all (fun q => decide (decode cX5_takesOn q.1 = .ok q.2)) = true := by decide +kernel
def tb_X5_upThen : TB := [(0, (.aload_n 0, 1)), (1, (.iload_n 1, 1)), (2, (.invokevirtual 132, 3)), (5, (.ifCond .eq 12, 3)), (8, (.iload_n 2, 1)), (9, (.bipush 99, 2)), (11, (.invokestatic 151, 3)), (14, (.goto 4, 3)), (17, (.iconst (-1), 1)), (18, (.istore_n 3, 1)), (19, (.iload_n 3, 1)), (20, (.ifCond .eq 9, 3)), (23, (.aload_n 0, 1)), (24, (.iload_n 3, 1)), (25, (.invokevirtual 38, 3)), (28, (.ireturn, 1)), (29, (.aload_n 0, 1)), (30, (.iload_n 2, 1)), (31, (.invokevirtual 154, 3)), (34, (.aload_n 0, 1)), (35, (.getfield 13, 3)), (38, (.iload_n 1, 1)), (39, (.invokestatic 48, 3)), (42, (.iconst 3, 1)), (43, (.iadd, 1)), (44, (.iaload, 1)), (45, (.ireturn, 1))]
set_option maxRecDepth 100000 in
theorem td_X5_upThen : tb_X5_upThen.all (fun q => decide (decode cX5_upThen q.1 = .ok q.2)) = true := by decide +kernel
def tb_X5_allThen : TB := [(0, (.iload_n 1, 1)), (1, (.bipush 99, 2)), (3, (.invokestatic 151, 3)), (6, (.istore_n 2, 1)), (7, (.iload_n 2, 1)), (8, (.ifCond .eq 9, 3)), (11, (.aload_n 0, 1)), (12, (.iload_n 2, 1)), (13, (.invokevirtual 38, 3)), (16, (.ireturn, 1)), (17, (.aload_n 0, 1)), (18, (.getfield 9, 3)), (21, (.aload_n 0, 1)), (22, (.getfield 13, 3)), (25, (.invokestatic 138, 3)), (28, (.aload_n 0, 1)), (29, (.iload_n 1, 1)), (30, (.invokevirtual 158, 3)), (33, (.ireturn, 1))]
set_option maxRecDepth 100000 in
theorem td_X5_allThen : tb_X5_allThen.all (fun q => decide (decode cX5_allThen q.1 = .ok q.2)) = true := by decide +kernel
def tb_X5_purposeThen : TB := [(0, (.aload_n 0, 1)), (1, (.iload_n 1, 1)), (2, (.invokevirtual 123, 3)), (5, (.ifCond .eq 12, 3)), (8, (.iload_n 2, 1)), (9, (.bipush 99, 2)), (11, (.invokestatic 151, 3)), (14, (.goto 4, 3)), (17, (.iconst (-1), 1)), (18, (.istore 4, 2)), (20, (.iload 4, 2)), (22, (.ifCond .ne 16, 3)), (25, (.iload_n 3, 1)), (26, (.iconst 0, 1)), (27, (.iconst 1, 1)), (28, (.invokestatic 44, 3)), (31, (.ifCond .ne 7, 3)), (34, (.bipush (-2), 2)), (36, (.istore 4, 2)), (38, (.iload 4, 2)), (40, (.ifCond .eq 10, 3)), (43, (.aload_n 0, 1)), (44, (.iload 4, 2)), (46, (.invokevirtual 38, 3)), (49, (.ireturn, 1)), (50, (.aload_n 0, 1)), (51, (.iload_n 2, 1)), (52, (.invokevirtual 154, 3)), (55, (.iload_n 3, 1)), (56, (.ifCond .ne 17, 3)), (59, (.aload_n 0, 1)), (60, (.getfield 13, 3)), (63, (.iload_n 1, 1)), (64, (.invokestatic 55, 3)), (67, (.iconst 2, 1)), (68, (.iadd, 1)), (69, (.iaload, 1)), (70, (.goto 11, 3)), (73, (.aload_n 0, 1)), (74, (.getfield 13, 3)), (77, (.iload_n 1, 1)), (78, (.invokestatic 58, 3)), (81, (.ireturn, 1))]
set_option maxRecDepth 100000 in
theorem td_X5_purposeThen : tb_X5_purposeThen.all (fun q => decide (decode cX5_purposeThen q.1 = .ok q.2)) = true := by decide +kernel
def tb_X5_downIn : TB := [(0, (.iconst 0, 1)), (1, (.istore_n 3, 1)), (2, (.iload_n 3, 1)), (3, (.bipush 99, 2)), (5, (.if_icmp .gt 48, 3)), (8, (.aload_n 0, 1)), (9, (.getfield 13, 3)), (12, (.invokestatic 90, 3)), (15, (.iload_n 1, 1)), (16, (.iand, 1)), (17, (.istore 4, 2)), (19, (.iload_n 2, 1)), (20, (.ifCond .eq 11, 3)), (23, (.iload 4, 2)), (25, (.ifCond .ne 14, 3)), (28, (.goto 9, 3)), (31, (.iload 4, 2)), (33, (.iload_n 1, 1)), (34, (.if_icmp .eq 5, 3)), (37, (.iload_n 3, 1)), (38, (.ireturn, 1)), (39, (.aload_n 0, 1)), (40, (.aload_n 0, 1)), (41, (.getfield 13, 3)), (44, (.invokevirtual 82, 3)), (47, (.iinc 3 1, 3)), (50, (.goto (-48), 3)), (53, (.bipush (-9), 2)), (55, (.ireturn, 1))]
set_option maxRecDepth 100000 in
theorem td_X5_downIn : tb_X5_downIn.all (fun q => decide (decode cX5_downIn q.1 = .ok q.2)) = true := by decide +kernel
def tb_X5_fallsOf : TB := [(0, (.aload_n 0, 1)), (1, (.getfield 9, 3)), (4, (.aload_n 0, 1)), (5, (.getfield 13, 3)), (8, (.invokestatic 138, 3)), (11, (.aload_n 0, 1)), (12, (.iconst 1, 1)), (13, (.iload_n 1, 1)), (14, (.ishl, 1)), (15, (.iconst 1, 1)), (16, (.invokevirtual 161, 3)), (19, (.ireturn, 1))]
set_option maxRecDepth 100000 in
theorem td_X5_fallsOf : tb_X5_fallsOf.all (fun q => decide (decode cX5_fallsOf q.1 = .ok q.2)) = true := by decide +kernel
def tb_X5_falls : TB := [(0, (.aload_n 0, 1)), (1, (.iload_n 1, 1)), (2, (.invokevirtual 132, 3)), (5, (.ifCond .eq 11, 3)), (8, (.aload_n 0, 1)), (9, (.iload_n 1, 1)), (10, (.invokevirtual 165, 3)), (13, (.goto 8, 3)), (16, (.aload_n 0, 1)), (17, (.iconst (-1), 1)), (18, (.invokevirtual 38, 3)), (21, (.ireturn, 1))]
set_option maxRecDepth 100000 in
theorem td_X5_falls : tb_X5_falls.all (fun q => decide (decode cX5_falls q.1 = .ok q.2)) = true := by decide +kernel
def tb_X5_first_0 : TB := [(0, (.iload_n 1, 1)), (1, (.iconst 0, 1)), (2, (.iconst 3, 1)), (3, (.invokestatic 44, 3)), (6, (.ifCond .ne 10, 3)), (9, (.aload_n 0, 1)), (10, (.bipush (-2), 2)), (12, (.invokevirtual 38, 3)), (15, (.ireturn, 1)), (16, (.aload_n 0, 1)), (17, (.getfield 9, 3)), (20, (.aload_n 0, 1)), (21, (.getfield 13, 3)), (24, (.invokestatic 138, 3)), (27, (.iload_n 1, 1)), (28, (.iconst 3, 1)), (29, (.if_icmp .ne 19, 3)), (32, (.aload_n 0, 1)), (33, (.iconst 1, 1)), (34, (.aload_n 0, 1)), (35, (.getfield 9, 3)), (38, (.iconst 1, 1)), (39, (.iaload, 1)), (40, (.ishl, 1)), (41, (.iconst 1, 1)), (42, (.isub, 1)), (43, (.iconst 1, 1)), (44, (.invokevirtual 161, 3)), (47, (.ireturn, 1)), (48, (.iload_n 1, 1)), (49, (.iconst 2, 1)), (50, (.if_icmp .ne 29, 3)), (53, (.aload_n 0, 1)), (54, (.aload_n 0, 1)), (55, (.getfield 9, 3)), (58, (.invokestatic 90, 3)), (61, (.iconst 0, 1)), (62, (.invokevirtual 161, 3)), (65, (.istore_n 2, 1)), (66, (.iload_n 2, 1)), (67, (.ifCond .ge 8, 3)), (70, (.bipush 99, 2)), (72, (.goto 6, 3)), (75, (.iload_n 2, 1)), (76, (.iconst 1, 1)), (77, (.isub, 1)), (78, (.ireturn, 1)), (79, (.bipush (-9), 2)), (81, (.istore_n 2, 1)), (82, (.ldc 37, 2)), (84, (.istore_n 3, 1)), (85, (.iconst 0, 1)), (86, (.istore 4, 2)), (88, (.iload 4, 2)), (90, (.bipush 20, 2)), (92, (.if_icmp .ge 70, 3)), (95, (.aload_n 0, 1)), (96, (.getfield 9, 3)), (99, (.iload 4, 2)), (101, (.invokestatic 62, 3))]
set_option maxRecDepth 100000 in
theorem td_X5_first_0 : tb_X5_first_0.all (fun q => decide (decode cX5_first q.1 = .ok q.2)) = true := by decide +kernel
def tb_X5_first_1 : TB := [(104, (.istore 5, 2)), (106, (.iload 5, 2)), (108, (.ifCond .lt 24, 3)), (111, (.aload_n 0, 1)), (112, (.getfield 9, 3)), (115, (.iload 5, 2)), (117, (.invokestatic 51, 3)), (120, (.ifCond .eq 12, 3)), (123, (.aload_n 0, 1)), (124, (.iload 5, 2)), (126, (.invokevirtual 165, 3)), (129, (.goto 5, 3)), (132, (.bipush (-9), 2)), (134, (.istore 6, 2)), (136, (.iload 6, 2)), (138, (.ifCond .lt 18, 3)), (141, (.iload 6, 2)), (143, (.iload_n 3, 1)), (144, (.if_icmp .lt 6, 3)), (147, (.goto 9, 3)), (150, (.iload 5, 2)), (152, (.istore_n 2, 1)), (153, (.iload 6, 2)), (155, (.istore_n 3, 1)), (156, (.iinc 4 1, 3)), (159, (.goto (-71), 3)), (162, (.iload_n 2, 1)), (163, (.ifCond .lt 7, 3)), (166, (.iload_n 1, 1)), (167, (.ifCond .ne 7, 3)), (170, (.iload_n 2, 1)), (171, (.goto 4, 3)), (174, (.iload_n 3, 1)), (175, (.ireturn, 1))]
set_option maxRecDepth 100000 in
theorem td_X5_first_1 : tb_X5_first_1.all (fun q => decide (decode cX5_first q.1 = .ok q.2)) = true := by decide +kernel
def tb_X5_first : TB := tb_X5_first_0 ++ (tb_X5_first_1)
theorem td_X5_first : tb_X5_first.all (fun q => decide (decode cX5_first q.1 = .ok q.2)) = true := by simp only [tb_X5_first, List.all_append, td_X5_first_0, td_X5_first_1, Bool.and_self]
def tb_X5_pushedBy : TB := [(0, (.aload_n 0, 1)), (1, (.getfield 13, 3)), (4, (.iload_n 1, 1)), (5, (.invokestatic 79, 3)), (8, (.istore_n 2, 1)), (9, (.aload_n 0, 1)), (10, (.getfield 9, 3)), (13, (.invokestatic 90, 3)), (16, (.aload_n 0, 1)), (17, (.getfield 13, 3)), (20, (.invokestatic 90, 3)), (23, (.iconst (-1), 1)), (24, (.ixor, 1)), (25, (.iand, 1)), (26, (.ireturn, 1))]
set_option maxRecDepth 100000 in
theorem td_X5_pushedBy : tb_X5_pushedBy.all (fun q => decide (decode cX5_pushedBy q.1 = .ok q.2)) = true := by decide +kernel
def tb_X5_pushed : TB := [(0, (.aload_n 0, 1)), (1, (.iload_n 1, 1)), (2, (.invokevirtual 148, 3)), (5, (.istore_n 2, 1)), (6, (.iload_n 2, 1)), (7, (.ifCond .eq 9, 3)), (10, (.aload_n 0, 1)), (11, (.iload_n 2, 1)), (12, (.invokevirtual 38, 3)), (15, (.ireturn, 1)), (16, (.aload_n 0, 1)), (17, (.getfield 9, 3)), (20, (.aload_n 0, 1)), (21, (.getfield 13, 3)), (24, (.invokestatic 138, 3)), (27, (.aload_n 0, 1)), (28, (.iload_n 1, 1)), (29, (.invokevirtual 168, 3)), (32, (.ireturn, 1))]
set_option maxRecDepth 100000 in
theorem td_X5_pushed : tb_X5_pushed.all (fun q => decide (decode cX5_pushed q.1 = .ok q.2)) = true := by decide +kernel
def tb_X5_worst : TB := [(0, (.iload_n 1, 1)), (1, (.iconst 0, 1)), (2, (.iconst 1, 1)), (3, (.invokestatic 44, 3)), (6, (.ifCond .ne 10, 3)), (9, (.aload_n 0, 1)), (10, (.bipush (-2), 2)), (12, (.invokevirtual 38, 3)), (15, (.ireturn, 1)), (16, (.bipush (-9), 2)), (18, (.istore_n 2, 1)), (19, (.iconst 0, 1)), (20, (.istore_n 3, 1)), (21, (.iconst 0, 1)), (22, (.istore 4, 2)), (24, (.iload 4, 2)), (26, (.bipush 20, 2)), (28, (.if_icmp .ge 77, 3)), (31, (.aload_n 0, 1)), (32, (.getfield 9, 3)), (35, (.iload 4, 2)), (37, (.invokestatic 62, 3)), (40, (.istore 5, 2)), (42, (.iload 5, 2)), (44, (.ifCond .lt 55, 3)), (47, (.aload_n 0, 1)), (48, (.getfield 9, 3)), (51, (.iload 5, 2)), (53, (.invokestatic 51, 3)), (56, (.ifCond .ne 6, 3)), (59, (.goto 40, 3)), (62, (.aload_n 0, 1)), (63, (.getfield 9, 3)), (66, (.aload_n 0, 1)), (67, (.getfield 13, 3)), (70, (.invokestatic 138, 3)), (73, (.aload_n 0, 1)), (74, (.getfield 13, 3)), (77, (.iload 5, 2)), (79, (.invokestatic 79, 3)), (82, (.istore 6, 2)), (84, (.iload 6, 2)), (86, (.iload_n 3, 1)), (87, (.if_icmp .gt 6, 3)), (90, (.goto 9, 3)), (93, (.iload 5, 2)), (95, (.istore_n 2, 1)), (96, (.iload 6, 2)), (98, (.istore_n 3, 1)), (99, (.iinc 4 1, 3)), (102, (.goto (-78), 3)), (105, (.iload_n 2, 1)), (106, (.ifCond .lt 7, 3)), (109, (.iload_n 1, 1)), (110, (.ifCond .ne 7, 3)), (113, (.iload_n 2, 1)), (114, (.goto 4, 3)), (117, (.iload_n 3, 1)), (118, (.ireturn, 1))]
set_option maxRecDepth 100000 in
theorem td_X5_worst : tb_X5_worst.all (fun q => decide (decode cX5_worst q.1 = .ok q.2)) = true := by decide +kernel
def tb_X5_gap_0 : TB := [(0, (.aload_n 0, 1)), (1, (.iload_n 1, 1)), (2, (.invokevirtual 148, 3)), (5, (.istore_n 2, 1)), (6, (.iload_n 2, 1)), (7, (.ifCond .eq 9, 3)), (10, (.aload_n 0, 1)), (11, (.iload_n 2, 1)), (12, (.invokevirtual 38, 3)), (15, (.ireturn, 1)), (16, (.aload_n 0, 1)), (17, (.getfield 9, 3)), (20, (.aload_n 0, 1)), (21, (.getfield 13, 3)), (24, (.invokestatic 138, 3)), (27, (.aload_n 0, 1)), (28, (.getfield 13, 3)), (31, (.iload_n 1, 1)), (32, (.invokestatic 79, 3)), (35, (.iconst 1, 1)), (36, (.isub, 1)), (37, (.istore_n 3, 1)), (38, (.bipush (-9), 2)), (40, (.istore 4, 2)), (42, (.iconst 0, 1)), (43, (.istore 5, 2)), (45, (.iload 5, 2)), (47, (.aload_n 0, 1)), (48, (.getfield 9, 3)), (51, (.iconst 1, 1)), (52, (.iaload, 1)), (53, (.if_icmp .ge 94, 3)), (56, (.iload 5, 2)), (58, (.iload_n 1, 1)), (59, (.if_icmp .eq 82, 3)), (62, (.aload_n 0, 1)), (63, (.getfield 9, 3)), (66, (.iload 5, 2)), (68, (.invokestatic 51, 3)), (71, (.ifCond .ne 6, 3)), (74, (.goto 67, 3)), (77, (.aload_n 0, 1)), (78, (.getfield 9, 3)), (81, (.aload_n 0, 1)), (82, (.getfield 13, 3)), (85, (.invokestatic 138, 3)), (88, (.aload_n 0, 1)), (89, (.getfield 13, 3)), (92, (.iload 5, 2)), (94, (.invokestatic 48, 3)), (97, (.iconst 3, 1)), (98, (.iadd, 1)), (99, (.iconst 0, 1)), (100, (.iastore, 1)), (101, (.aload_n 0, 1)), (102, (.getfield 13, 3)), (105, (.iload 5, 2)), (107, (.invokestatic 48, 3)), (110, (.iconst 1, 1)), (111, (.iadd, 1))]
set_option maxRecDepth 100000 in
theorem td_X5_gap_0 : tb_X5_gap_0.all (fun q => decide (decode cX5_gap q.1 = .ok q.2)) = true := by decide +kernel
def tb_X5_gap_1 : TB := [(112, (.bipush (-5), 2)), (114, (.iastore, 1)), (115, (.aload_n 0, 1)), (116, (.getfield 13, 3)), (119, (.iload_n 1, 1)), (120, (.invokestatic 79, 3)), (123, (.istore 6, 2)), (125, (.iload 6, 2)), (127, (.iload_n 3, 1)), (128, (.if_icmp .lt 6, 3)), (131, (.goto 10, 3)), (134, (.iload 5, 2)), (136, (.istore 4, 2)), (138, (.iload 6, 2)), (140, (.istore_n 3, 1)), (141, (.iinc 5 1, 3)), (144, (.goto (-99), 3)), (147, (.iload 4, 2)), (149, (.ireturn, 1))]
set_option maxRecDepth 100000 in
theorem td_X5_gap_1 : tb_X5_gap_1.all (fun q => decide (decode cX5_gap q.1 = .ok q.2)) = true := by decide +kernel
def tb_X5_gap : TB := tb_X5_gap_0 ++ (tb_X5_gap_1)
theorem td_X5_gap : tb_X5_gap.all (fun q => decide (decode cX5_gap q.1 = .ok q.2)) = true := by simp only [tb_X5_gap, List.all_append, td_X5_gap_0, td_X5_gap_1, Bool.and_self]
def tb_X5_longest : TB := [(0, (.iload_n 1, 1)), (1, (.iconst 0, 1)), (2, (.iconst 1, 1)), (3, (.invokestatic 44, 3)), (6, (.ifCond .ne 10, 3)), (9, (.aload_n 0, 1)), (10, (.bipush (-2), 2)), (12, (.invokevirtual 38, 3)), (15, (.ireturn, 1)), (16, (.bipush (-9), 2)), (18, (.istore_n 2, 1)), (19, (.iconst 0, 1)), (20, (.istore_n 3, 1)), (21, (.iconst 0, 1)), (22, (.istore 4, 2)), (24, (.iconst 0, 1)), (25, (.istore 5, 2)), (27, (.iload 5, 2)), (29, (.bipush 20, 2)), (31, (.if_icmp .ge 67, 3)), (34, (.aload_n 0, 1)), (35, (.getfield 9, 3)), (38, (.iload 5, 2)), (40, (.invokestatic 62, 3)), (43, (.istore 6, 2)), (45, (.iload 6, 2)), (47, (.ifCond .lt 22, 3)), (50, (.aload_n 0, 1)), (51, (.getfield 9, 3)), (54, (.iload 6, 2)), (56, (.invokestatic 51, 3)), (59, (.ifCond .eq 10, 3)), (62, (.iload 4, 2)), (64, (.iconst 1, 1)), (65, (.iadd, 1)), (66, (.goto 4, 3)), (69, (.iconst 0, 1)), (70, (.istore 4, 2)), (72, (.iload 4, 2)), (74, (.iload_n 3, 1)), (75, (.if_icmp .gt 6, 3)), (78, (.goto 14, 3)), (81, (.iload 4, 2)), (83, (.istore_n 3, 1)), (84, (.iload 5, 2)), (86, (.iload 4, 2)), (88, (.isub, 1)), (89, (.iconst 1, 1)), (90, (.iadd, 1)), (91, (.istore_n 2, 1)), (92, (.iinc 5 1, 3)), (95, (.goto (-68), 3)), (98, (.iload_n 1, 1)), (99, (.ifCond .ne 7, 3)), (102, (.iload_n 3, 1)), (103, (.goto 4, 3)), (106, (.iload_n 2, 1)), (107, (.ireturn, 1))]
set_option maxRecDepth 100000 in
theorem td_X5_longest : tb_X5_longest.all (fun q => decide (decode cX5_longest q.1 = .ok q.2)) = true := by decide +kernel
def tb_X5_orNever : TB := [(0, (.iload_n 0, 1)), (1, (.ifCond .ge 8, 3)), (4, (.bipush 100, 2)), (6, (.goto 4, 3)), (9, (.iload_n 0, 1)), (10, (.ireturn, 1))]
set_option maxRecDepth 100000 in
theorem td_X5_orNever : tb_X5_orNever.all (fun q => decide (decode cX5_orNever q.1 = .ok q.2)) = true := by decide +kernel
def tb_X5_lean : TB := [(0, (.aload_n 0, 1)), (1, (.iload_n 1, 1)), (2, (.invokevirtual 148, 3)), (5, (.istore_n 2, 1)), (6, (.iload_n 2, 1)), (7, (.ifCond .eq 9, 3)), (10, (.aload_n 0, 1)), (11, (.iload_n 2, 1)), (12, (.invokevirtual 38, 3)), (15, (.ireturn, 1)), (16, (.bipush (-9), 2)), (18, (.istore_n 3, 1)), (19, (.iconst (-1), 1)), (20, (.istore 4, 2)), (22, (.iconst 0, 1)), (23, (.istore 5, 2)), (25, (.iload 5, 2)), (27, (.aload_n 0, 1)), (28, (.getfield 9, 3)), (31, (.iconst 0, 1)), (32, (.iaload, 1)), (33, (.if_icmp .ge 63, 3)), (36, (.aload_n 0, 1)), (37, (.getfield 9, 3)), (40, (.aload_n 0, 1)), (41, (.getfield 13, 3)), (44, (.invokestatic 138, 3)), (47, (.aload_n 0, 1)), (48, (.getfield 13, 3)), (51, (.iload_n 1, 1)), (52, (.invokestatic 48, 3)), (55, (.iconst 2, 1)), (56, (.iadd, 1)), (57, (.iload 5, 2)), (59, (.iastore, 1)), (60, (.aload_n 0, 1)), (61, (.iconst 1, 1)), (62, (.iload_n 1, 1)), (63, (.ishl, 1)), (64, (.iconst 1, 1)), (65, (.invokevirtual 161, 3)), (68, (.invokestatic 171, 3)), (71, (.istore 6, 2)), (73, (.iload 6, 2)), (75, (.iload 4, 2)), (77, (.if_icmp .gt 6, 3)), (80, (.goto 10, 3)), (83, (.iload 5, 2)), (85, (.istore_n 3, 1)), (86, (.iload 6, 2)), (88, (.istore 4, 2)), (90, (.iinc 5 1, 3)), (93, (.goto (-68), 3)), (96, (.iload_n 3, 1)), (97, (.ireturn, 1))]
set_option maxRecDepth 100000 in
theorem td_X5_lean : tb_X5_lean.all (fun q => decide (decode cX5_lean q.1 = .ok q.2)) = true := by decide +kernel
def tb_X5_bestLeans_0 : TB := [(0, (.aload_n 0, 1)), (1, (.iload_n 1, 1)), (2, (.invokevirtual 132, 3)), (5, (.ifCond .eq 34, 3)), (8, (.aload_n 0, 1)), (9, (.iload_n 2, 1)), (10, (.invokevirtual 132, 3)), (13, (.ifCond .eq 26, 3)), (16, (.aload_n 0, 1)), (17, (.iload_n 3, 1)), (18, (.invokevirtual 132, 3)), (21, (.ifCond .eq 18, 3)), (24, (.iload_n 1, 1)), (25, (.iload_n 2, 1)), (26, (.if_icmp .eq 13, 3)), (29, (.iload_n 1, 1)), (30, (.iload_n 3, 1)), (31, (.if_icmp .eq 8, 3)), (34, (.iload_n 2, 1)), (35, (.iload_n 3, 1)), (36, (.if_icmp .ne 7, 3)), (39, (.iconst (-1), 1)), (40, (.goto 10, 3)), (43, (.iload 4, 2)), (45, (.bipush 20, 2)), (47, (.invokestatic 151, 3)), (50, (.istore 6, 2)), (52, (.iload 6, 2)), (54, (.ifCond .ne 17, 3)), (57, (.iload 5, 2)), (59, (.iconst 0, 1)), (60, (.iconst 1, 1)), (61, (.invokestatic 44, 3)), (64, (.ifCond .ne 7, 3)), (67, (.bipush (-2), 2)), (69, (.istore 6, 2)), (71, (.iload 6, 2)), (73, (.ifCond .eq 10, 3)), (76, (.aload_n 0, 1)), (77, (.iload 6, 2)), (79, (.invokevirtual 38, 3)), (82, (.ireturn, 1)), (83, (.bipush (-9), 2)), (85, (.istore 7, 2)), (87, (.iconst (-1), 1)), (88, (.istore 8, 2)), (90, (.iconst 0, 1)), (91, (.istore 9, 2)), (93, (.iload 9, 2)), (95, (.aload_n 0, 1)), (96, (.getfield 9, 3)), (99, (.iconst 0, 1)), (100, (.iaload, 1)), (101, (.aload_n 0, 1)), (102, (.getfield 9, 3)), (105, (.iconst 0, 1)), (106, (.iaload, 1)), (107, (.imul, 1)), (108, (.aload_n 0, 1)), (109, (.getfield 9, 3))]
set_option maxRecDepth 100000 in
theorem td_X5_bestLeans_0 : tb_X5_bestLeans_0.all (fun q => decide (decode cX5_bestLeans q.1 = .ok q.2)) = true := by decide +kernel
def tb_X5_bestLeans_1 : TB := [(112, (.iconst 0, 1)), (113, (.iaload, 1)), (114, (.imul, 1)), (115, (.if_icmp .ge 144, 3)), (118, (.iload 9, 2)), (120, (.aload_n 0, 1)), (121, (.getfield 9, 3)), (124, (.iconst 0, 1)), (125, (.iaload, 1)), (126, (.aload_n 0, 1)), (127, (.getfield 9, 3)), (130, (.iconst 0, 1)), (131, (.iaload, 1)), (132, (.imul, 1)), (133, (.idiv, 1)), (134, (.istore 10, 2)), (136, (.iload 9, 2)), (138, (.aload_n 0, 1)), (139, (.getfield 9, 3)), (142, (.iconst 0, 1)), (143, (.iaload, 1)), (144, (.idiv, 1)), (145, (.aload_n 0, 1)), (146, (.getfield 9, 3)), (149, (.iconst 0, 1)), (150, (.iaload, 1)), (151, (.irem, 1)), (152, (.istore 11, 2)), (154, (.iload 9, 2)), (156, (.aload_n 0, 1)), (157, (.getfield 9, 3)), (160, (.iconst 0, 1)), (161, (.iaload, 1)), (162, (.irem, 1)), (163, (.istore 12, 2)), (165, (.aload_n 0, 1)), (166, (.getfield 9, 3)), (169, (.aload_n 0, 1)), (170, (.getfield 13, 3)), (173, (.invokestatic 138, 3)), (176, (.aload_n 0, 1)), (177, (.getfield 13, 3)), (180, (.iload_n 1, 1)), (181, (.invokestatic 48, 3)), (184, (.iconst 2, 1)), (185, (.iadd, 1)), (186, (.iload 10, 2)), (188, (.iastore, 1)), (189, (.aload_n 0, 1)), (190, (.getfield 13, 3)), (193, (.iload_n 2, 1)), (194, (.invokestatic 48, 3)), (197, (.iconst 2, 1)), (198, (.iadd, 1)), (199, (.iload 11, 2)), (201, (.iastore, 1)), (202, (.aload_n 0, 1)), (203, (.getfield 13, 3)), (206, (.iload_n 3, 1)), (207, (.invokestatic 48, 3))]
set_option maxRecDepth 100000 in
theorem td_X5_bestLeans_1 : tb_X5_bestLeans_1.all (fun q => decide (decode cX5_bestLeans q.1 = .ok q.2)) = true := by decide +kernel
def tb_X5_bestLeans_2 : TB := [(210, (.iconst 2, 1)), (211, (.iadd, 1)), (212, (.iload 12, 2)), (214, (.iastore, 1)), (215, (.aload_n 0, 1)), (216, (.iload 4, 2)), (218, (.invokevirtual 158, 3)), (221, (.istore 13, 2)), (223, (.iload 13, 2)), (225, (.iload 8, 2)), (227, (.if_icmp .gt 6, 3)), (230, (.goto 23, 3)), (233, (.bipush 100, 2)), (235, (.iload 10, 2)), (237, (.imul, 1)), (238, (.bipush 10, 2)), (240, (.iload 11, 2)), (242, (.imul, 1)), (243, (.iadd, 1)), (244, (.iload 12, 2)), (246, (.iadd, 1)), (247, (.istore 7, 2)), (249, (.iload 13, 2)), (251, (.istore 8, 2)), (253, (.iinc 9 1, 3)), (256, (.goto (-163), 3)), (259, (.iload 7, 2)), (261, (.ifCond .lt 8, 3)), (264, (.iload 5, 2)), (266, (.ifCond .ne 8, 3)), (269, (.iload 7, 2)), (271, (.goto 5, 3)), (274, (.iload 8, 2)), (276, (.ireturn, 1))]
set_option maxRecDepth 100000 in
theorem td_X5_bestLeans_2 : tb_X5_bestLeans_2.all (fun q => decide (decode cX5_bestLeans q.1 = .ok q.2)) = true := by decide +kernel
def tb_X5_bestLeans : TB := tb_X5_bestLeans_0 ++ (tb_X5_bestLeans_1 ++ (tb_X5_bestLeans_2))
theorem td_X5_bestLeans : tb_X5_bestLeans.all (fun q => decide (decode cX5_bestLeans q.1 = .ok q.2)) = true := by simp only [tb_X5_bestLeans, List.all_append, td_X5_bestLeans_0, td_X5_bestLeans_1, td_X5_bestLeans_2, Bool.and_self]
def tb_X5_upWith : TB := [(0, (.aload_n 0, 1)), (1, (.getfield 9, 3)), (4, (.aload_n 0, 1)), (5, (.getfield 13, 3)), (8, (.invokestatic 138, 3)), (11, (.aload_n 0, 1)), (12, (.getfield 13, 3)), (15, (.iload_n 1, 1)), (16, (.invokestatic 55, 3)), (19, (.iconst 2, 1)), (20, (.iadd, 1)), (21, (.iload_n 2, 1)), (22, (.iastore, 1)), (23, (.aload_n 0, 1)), (24, (.iload_n 3, 1)), (25, (.invokevirtual 158, 3)), (28, (.ireturn, 1))]
set_option maxRecDepth 100000 in
theorem td_X5_upWith : tb_X5_upWith.all (fun q => decide (decode cX5_upWith q.1 = .ok q.2)) = true := by decide +kernel
def tb_X5_mended : TB := [(0, (.iload_n 1, 1)), (1, (.bipush 99, 2)), (3, (.invokestatic 151, 3)), (6, (.istore_n 2, 1)), (7, (.iload_n 2, 1)), (8, (.ifCond .eq 9, 3)), (11, (.aload_n 0, 1)), (12, (.iload_n 2, 1)), (13, (.invokevirtual 38, 3)), (16, (.ireturn, 1)), (17, (.aload_n 0, 1)), (18, (.getfield 9, 3)), (21, (.aload_n 0, 1)), (22, (.getfield 13, 3)), (25, (.invokestatic 138, 3)), (28, (.aload_n 0, 1)), (29, (.iload_n 1, 1)), (30, (.invokevirtual 158, 3)), (33, (.istore_n 3, 1)), (34, (.bipush (-9), 2)), (36, (.istore 4, 2)), (38, (.iconst 0, 1)), (39, (.istore 5, 2)), (41, (.iload 5, 2)), (43, (.aload_n 0, 1)), (44, (.getfield 9, 3)), (47, (.iconst 0, 1)), (48, (.iaload, 1)), (49, (.if_icmp .ge 36, 3)), (52, (.aload_n 0, 1)), (53, (.iload 5, 2)), (55, (.bipush 99, 2)), (57, (.iload_n 1, 1)), (58, (.invokevirtual 174, 3)), (61, (.istore 6, 2)), (63, (.iload 6, 2)), (65, (.iload_n 3, 1)), (66, (.if_icmp .gt 6, 3)), (69, (.goto 10, 3)), (72, (.iload 5, 2)), (74, (.istore 4, 2)), (76, (.iload 6, 2)), (78, (.istore_n 3, 1)), (79, (.iinc 5 1, 3)), (82, (.goto (-41), 3)), (85, (.iload 4, 2)), (87, (.ireturn, 1))]
set_option maxRecDepth 100000 in
theorem td_X5_mended : tb_X5_mended.all (fun q => decide (decode cX5_mended q.1 = .ok q.2)) = true := by decide +kernel
def tb_X5_key : TB := [(0, (.iload_n 1, 1)), (1, (.bipush 99, 2)), (3, (.invokestatic 151, 3)), (6, (.istore_n 2, 1)), (7, (.iload_n 2, 1)), (8, (.ifCond .eq 9, 3)), (11, (.aload_n 0, 1)), (12, (.iload_n 2, 1)), (13, (.invokevirtual 38, 3)), (16, (.ireturn, 1)), (17, (.aload_n 0, 1)), (18, (.getfield 9, 3)), (21, (.aload_n 0, 1)), (22, (.getfield 13, 3)), (25, (.invokestatic 138, 3)), (28, (.aload_n 0, 1)), (29, (.iload_n 1, 1)), (30, (.invokevirtual 158, 3)), (33, (.istore_n 3, 1)), (34, (.bipush (-9), 2)), (36, (.istore 4, 2)), (38, (.iconst 0, 1)), (39, (.istore 5, 2)), (41, (.iload 5, 2)), (43, (.aload_n 0, 1)), (44, (.getfield 9, 3)), (47, (.iconst 0, 1)), (48, (.iaload, 1)), (49, (.if_icmp .ge 35, 3)), (52, (.aload_n 0, 1)), (53, (.iload 5, 2)), (55, (.iconst 0, 1)), (56, (.iload_n 1, 1)), (57, (.invokevirtual 174, 3)), (60, (.istore 6, 2)), (62, (.iload 6, 2)), (64, (.iload_n 3, 1)), (65, (.if_icmp .lt 6, 3)), (68, (.goto 10, 3)), (71, (.iload 5, 2)), (73, (.istore 4, 2)), (75, (.iload 6, 2)), (77, (.istore_n 3, 1)), (78, (.iinc 5 1, 3)), (81, (.goto (-40), 3)), (84, (.iload 4, 2)), (86, (.ireturn, 1))]
set_option maxRecDepth 100000 in
theorem td_X5_key : tb_X5_key.all (fun q => decide (decode cX5_key q.1 = .ok q.2)) = true := by decide +kernel
def tb_X5_takes : TB := [(0, (.aload_n 0, 1)), (1, (.iload_n 1, 1)), (2, (.invokevirtual 123, 3)), (5, (.ifCond .eq 12, 3)), (8, (.iload_n 2, 1)), (9, (.bipush 99, 2)), (11, (.invokestatic 151, 3)), (14, (.goto 4, 3)), (17, (.iconst (-1), 1)), (18, (.istore_n 3, 1)), (19, (.iload_n 3, 1)), (20, (.ifCond .eq 9, 3)), (23, (.aload_n 0, 1)), (24, (.iload_n 3, 1)), (25, (.invokevirtual 38, 3)), (28, (.ireturn, 1)), (29, (.aload_n 0, 1)), (30, (.iload_n 2, 1)), (31, (.invokevirtual 154, 3)), (34, (.aload_n 0, 1)), (35, (.getfield 13, 3)), (38, (.iload_n 1, 1)), (39, (.invokestatic 73, 3)), (42, (.istore 4, 2)), (44, (.iload 4, 2)), (46, (.ifCond .ge 8, 3)), (49, (.bipush (-9), 2)), (51, (.goto 17, 3)), (54, (.iload 4, 2)), (56, (.bipush 9, 2)), (58, (.if_icmp .le 8, 3)), (61, (.bipush 9, 2)), (63, (.goto 5, 3)), (66, (.iload 4, 2)), (68, (.ireturn, 1))]
set_option maxRecDepth 100000 in
theorem td_X5_takes : tb_X5_takes.all (fun q => decide (decode cX5_takes q.1 = .ok q.2)) = true := by decide +kernel
def tb_X5_weightOf : TB := [(0, (.iconst 0, 1)), (1, (.istore_n 2, 1)), (2, (.iconst 0, 1)), (3, (.istore_n 3, 1)), (4, (.iload_n 3, 1)), (5, (.aload_n 0, 1)), (6, (.getfield 9, 3)), (9, (.iconst 1, 1)), (10, (.iaload, 1)), (11, (.if_icmp .ge 36, 3)), (14, (.iload_n 2, 1)), (15, (.iload_n 1, 1)), (16, (.iload_n 3, 1)), (17, (.ishr, 1)), (18, (.iconst 1, 1)), (19, (.iand, 1)), (20, (.iconst 1, 1)), (21, (.if_icmp .ne 17, 3)), (24, (.aload_n 0, 1)), (25, (.getfield 9, 3)), (28, (.iload_n 3, 1)), (29, (.invokestatic 48, 3)), (32, (.iconst 0, 1)), (33, (.iadd, 1)), (34, (.iaload, 1)), (35, (.goto 4, 3)), (38, (.iconst 0, 1)), (39, (.iadd, 1)), (40, (.istore_n 2, 1)), (41, (.iinc 3 1, 3)), (44, (.goto (-40), 3)), (47, (.iload_n 2, 1)), (48, (.ireturn, 1))]
set_option maxRecDepth 100000 in
theorem td_X5_weightOf : tb_X5_weightOf.all (fun q => decide (decode cX5_weightOf q.1 = .ok q.2)) = true := by decide +kernel
def tb_X5_balanced_0 : TB := [(0, (.aload_n 0, 1)), (1, (.iload_n 1, 1)), (2, (.invokevirtual 123, 3)), (5, (.ifCond .ne 9, 3)), (8, (.aload_n 0, 1)), (9, (.iconst (-1), 1)), (10, (.invokevirtual 38, 3)), (13, (.ireturn, 1)), (14, (.iload_n 2, 1)), (15, (.iconst 0, 1)), (16, (.iconst 1, 1)), (17, (.invokestatic 44, 3)), (20, (.ifCond .ne 10, 3)), (23, (.aload_n 0, 1)), (24, (.bipush (-2), 2)), (26, (.invokevirtual 38, 3)), (29, (.ireturn, 1)), (30, (.aload_n 0, 1)), (31, (.getfield 9, 3)), (34, (.invokestatic 90, 3)), (37, (.istore_n 3, 1)), (38, (.iconst 0, 1)), (39, (.istore 4, 2)), (41, (.iconst 0, 1)), (42, (.istore 5, 2)), (44, (.iload 5, 2)), (46, (.iload_n 3, 1)), (47, (.if_icmp .gt 55, 3)), (50, (.iload 5, 2)), (52, (.iload_n 3, 1)), (53, (.iconst (-1), 1)), (54, (.ixor, 1)), (55, (.iand, 1)), (56, (.ifCond .ne 40, 3)), (59, (.iload 5, 2)), (61, (.invokestatic 94, 3)), (64, (.iload 4, 2)), (66, (.invokestatic 94, 3)), (69, (.if_icmp .le 27, 3)), (72, (.aload_n 0, 1)), (73, (.iload 5, 2)), (75, (.invokevirtual 178, 3)), (78, (.aload_n 0, 1)), (79, (.getfield 9, 3)), (82, (.iload_n 1, 1)), (83, (.invokestatic 55, 3)), (86, (.iconst 2, 1)), (87, (.iadd, 1)), (88, (.iaload, 1)), (89, (.if_icmp .gt 7, 3)), (92, (.iload 5, 2)), (94, (.istore 4, 2)), (96, (.iinc 5 1, 3)), (99, (.goto (-55), 3)), (102, (.iload_n 2, 1)), (103, (.ifCond .ne 8, 3)), (106, (.iload 4, 2)), (108, (.goto 8, 3)), (111, (.iload 4, 2)), (113, (.invokestatic 94, 3))]
set_option maxRecDepth 100000 in
theorem td_X5_balanced_0 : tb_X5_balanced_0.all (fun q => decide (decode cX5_balanced q.1 = .ok q.2)) = true := by decide +kernel
def tb_X5_balanced_1 : TB := [(116, (.ireturn, 1))]
set_option maxRecDepth 100000 in
theorem td_X5_balanced_1 : tb_X5_balanced_1.all (fun q => decide (decode cX5_balanced q.1 = .ok q.2)) = true := by decide +kernel
def tb_X5_balanced : TB := tb_X5_balanced_0 ++ (tb_X5_balanced_1)
theorem td_X5_balanced : tb_X5_balanced.all (fun q => decide (decode cX5_balanced q.1 = .ok q.2)) = true := by simp only [tb_X5_balanced, List.all_append, td_X5_balanced_0, td_X5_balanced_1, Bool.and_self]
def tb_X5_leastToPush : TB := [(0, (.iconst 0, 1)), (1, (.istore_n 2, 1)), (2, (.iload_n 2, 1)), (3, (.bipush 20, 2)), (5, (.if_icmp .ge 48, 3)), (8, (.aload_n 0, 1)), (9, (.iload_n 2, 1)), (10, (.invokestatic 62, 3)), (13, (.istore_n 3, 1)), (14, (.iload_n 3, 1)), (15, (.ifCond .lt 32, 3)), (18, (.aload_n 0, 1)), (19, (.iload_n 3, 1)), (20, (.invokestatic 51, 3)), (23, (.ifCond .eq 24, 3)), (26, (.iload_n 1, 1)), (27, (.ifCond .ne 18, 3)), (30, (.aload_n 0, 1)), (31, (.aload_n 0, 1)), (32, (.iload_n 3, 1)), (33, (.invokestatic 48, 3)), (36, (.iconst 2, 1)), (37, (.iadd, 1)), (38, (.iaload, 1)), (39, (.invokestatic 73, 3)), (42, (.ifCond .gt 5, 3)), (45, (.iload_n 3, 1)), (46, (.ireturn, 1)), (47, (.iinc 2 1, 3)), (50, (.goto (-48), 3)), (53, (.bipush (-9), 2)), (55, (.ireturn, 1))]
set_option maxRecDepth 100000 in
theorem td_X5_leastToPush : tb_X5_leastToPush.all (fun q => decide (decode cX5_leastToPush q.1 = .ok q.2)) = true := by decide +kernel
def tb_X5_pushesLeast : TB := [(0, (.aload_n 0, 1)), (1, (.getfield 13, 3)), (4, (.iload_n 1, 1)), (5, (.invokestatic 181, 3)), (8, (.istore_n 2, 1)), (9, (.iload_n 2, 1)), (10, (.ifCond .ge 7, 3)), (13, (.iconst 0, 1)), (14, (.goto 11, 3)), (17, (.aload_n 0, 1)), (18, (.getfield 13, 3)), (21, (.iload_n 2, 1)), (22, (.invokestatic 79, 3)), (25, (.istore_n 3, 1)), (26, (.return_, 1))]
set_option maxRecDepth 100000 in
theorem td_X5_pushesLeast : tb_X5_pushesLeast.all (fun q => decide (decode cX5_pushesLeast q.1 = .ok q.2)) = true := by decide +kernel
def tb_X5_thief : TB := [(0, (.iload_n 1, 1)), (1, (.bipush 99, 2)), (3, (.invokestatic 151, 3)), (6, (.istore_n 2, 1)), (7, (.iload_n 2, 1)), (8, (.ifCond .eq 9, 3)), (11, (.aload_n 0, 1)), (12, (.iload_n 2, 1)), (13, (.invokevirtual 38, 3)), (16, (.ireturn, 1)), (17, (.aload_n 0, 1)), (18, (.getfield 9, 3)), (21, (.aload_n 0, 1)), (22, (.getfield 13, 3)), (25, (.invokestatic 138, 3)), (28, (.iconst 0, 1)), (29, (.istore_n 3, 1)), (30, (.iload_n 3, 1)), (31, (.iload_n 1, 1)), (32, (.if_icmp .ge 22, 3)), (35, (.aload_n 0, 1)), (36, (.iconst 0, 1)), (37, (.invokevirtual 185, 3)), (40, (.aload_n 0, 1)), (41, (.aload_n 0, 1)), (42, (.getfield 13, 3)), (45, (.invokevirtual 82, 3)), (48, (.iinc 3 1, 3)), (51, (.goto (-21), 3)), (54, (.aload_n 0, 1)), (55, (.getfield 13, 3)), (58, (.invokestatic 90, 3)), (61, (.invokestatic 94, 3)), (64, (.ireturn, 1))]
set_option maxRecDepth 100000 in
theorem td_X5_thief : tb_X5_thief.all (fun q => decide (decode cX5_thief q.1 = .ok q.2)) = true := by decide +kernel
def tb_X5_robbed : TB := [(0, (.aload_n 0, 1)), (1, (.getfield 9, 3)), (4, (.aload_n 0, 1)), (5, (.getfield 13, 3)), (8, (.invokestatic 138, 3)), (11, (.iconst 0, 1)), (12, (.istore_n 1, 1)), (13, (.iload_n 1, 1)), (14, (.bipush 99, 2)), (16, (.if_icmp .gt 35, 3)), (19, (.aload_n 0, 1)), (20, (.getfield 13, 3)), (23, (.iconst 0, 1)), (24, (.invokestatic 181, 3)), (27, (.ifCond .ge 5, 3)), (30, (.iload_n 1, 1)), (31, (.ireturn, 1)), (32, (.aload_n 0, 1)), (33, (.iconst 0, 1)), (34, (.invokevirtual 185, 3)), (37, (.aload_n 0, 1)), (38, (.aload_n 0, 1)), (39, (.getfield 13, 3)), (42, (.invokevirtual 82, 3)), (45, (.iinc 1 1, 3)), (48, (.goto (-35), 3)), (51, (.bipush (-9), 2)), (53, (.ireturn, 1))]
set_option maxRecDepth 100000 in
theorem td_X5_robbed : tb_X5_robbed.all (fun q => decide (decode cX5_robbed q.1 = .ok q.2)) = true := by decide +kernel
def tb_X5_bestPlace_0 : TB := [(0, (.aload_n 0, 1)), (1, (.iload_n 1, 1)), (2, (.invokevirtual 132, 3)), (5, (.ifCond .ne 7, 3)), (8, (.iconst (-1), 1)), (9, (.goto 22, 3)), (12, (.iload_n 2, 1)), (13, (.iconst 0, 1)), (14, (.iconst 1, 1)), (15, (.invokestatic 44, 3)), (18, (.ifCond .ne 8, 3)), (21, (.bipush (-2), 2)), (23, (.goto 8, 3)), (26, (.aload_n 0, 1)), (27, (.iload_n 1, 1)), (28, (.invokevirtual 148, 3)), (31, (.istore_n 3, 1)), (32, (.iload_n 3, 1)), (33, (.ifCond .eq 9, 3)), (36, (.aload_n 0, 1)), (37, (.iload_n 3, 1)), (38, (.invokevirtual 38, 3)), (41, (.ireturn, 1)), (42, (.bipush (-9), 2)), (44, (.istore 4, 2)), (46, (.ldc 37, 2)), (48, (.istore 5, 2)), (50, (.iconst 0, 1)), (51, (.istore 6, 2)), (53, (.iload 6, 2)), (55, (.bipush 20, 2)), (57, (.if_icmp .ge 86, 3)), (60, (.aload_n 0, 1)), (61, (.getfield 9, 3)), (64, (.iload 6, 2)), (66, (.invokestatic 62, 3)), (69, (.istore 7, 2)), (71, (.iload 7, 2)), (73, (.ifCond .lt 12, 3)), (76, (.iload 7, 2)), (78, (.iload_n 1, 1)), (79, (.if_icmp .eq 6, 3)), (82, (.goto 55, 3)), (85, (.aload_n 0, 1)), (86, (.getfield 9, 3)), (89, (.aload_n 0, 1)), (90, (.getfield 13, 3)), (93, (.invokestatic 138, 3)), (96, (.aload_n 0, 1)), (97, (.getfield 13, 3)), (100, (.iload_n 1, 1)), (101, (.invokestatic 48, 3)), (104, (.iconst 1, 1)), (105, (.iadd, 1)), (106, (.iload 6, 2)), (108, (.iastore, 1)), (109, (.aload_n 0, 1)), (110, (.getfield 13, 3)), (113, (.iload_n 1, 1)), (114, (.invokestatic 79, 3))]
set_option maxRecDepth 100000 in
theorem td_X5_bestPlace_0 : tb_X5_bestPlace_0.all (fun q => decide (decode cX5_bestPlace q.1 = .ok q.2)) = true := by decide +kernel
def tb_X5_bestPlace_1 : TB := [(117, (.istore 8, 2)), (119, (.iload 8, 2)), (121, (.iload 5, 2)), (123, (.if_icmp .lt 6, 3)), (126, (.goto 11, 3)), (129, (.iload 6, 2)), (131, (.istore 4, 2)), (133, (.iload 8, 2)), (135, (.istore 5, 2)), (137, (.iinc 6 1, 3)), (140, (.goto (-87), 3)), (143, (.iload_n 2, 1)), (144, (.ifCond .ne 8, 3)), (147, (.iload 4, 2)), (149, (.goto 5, 3)), (152, (.iload 5, 2)), (154, (.ireturn, 1))]
set_option maxRecDepth 100000 in
theorem td_X5_bestPlace_1 : tb_X5_bestPlace_1.all (fun q => decide (decode cX5_bestPlace q.1 = .ok q.2)) = true := by decide +kernel
def tb_X5_bestPlace : TB := tb_X5_bestPlace_0 ++ (tb_X5_bestPlace_1)
theorem td_X5_bestPlace : tb_X5_bestPlace.all (fun q => decide (decode cX5_bestPlace q.1 = .ok q.2)) = true := by simp only [tb_X5_bestPlace, List.all_append, td_X5_bestPlace_0, td_X5_bestPlace_1, Bool.and_self]
def tb_X5_gcd : TB := [(0, (.lload_n 0, 1)), (1, (.lstore 4, 2)), (3, (.lload_n 2, 1)), (4, (.lstore 6, 2)), (6, (.lload 6, 2)), (8, (.lconst 0, 1)), (9, (.lcmp, 1)), (10, (.ifCond .eq 21, 3)), (13, (.lload 4, 2)), (15, (.lload 6, 2)), (17, (.lrem, 1)), (18, (.lstore 8, 2)), (20, (.lload 6, 2)), (22, (.lstore 4, 2)), (24, (.lload 8, 2)), (26, (.lstore 6, 2)), (28, (.goto (-22), 3)), (31, (.lload 4, 2)), (33, (.lreturn, 1))]
set_option maxRecDepth 100000 in
theorem td_X5_gcd : tb_X5_gcd.all (fun q => decide (decode cX5_gcd q.1 = .ok q.2)) = true := by decide +kernel
def tb_X5_partOf : TB := [(0, (.lload_n 0, 1)), (1, (.lconst 0, 1)), (2, (.lcmp, 1)), (3, (.ifCond .ne 7, 3)), (6, (.iload 4, 2)), (8, (.i2l, 1)), (9, (.lreturn, 1)), (10, (.iload 4, 2)), (12, (.ifCond .ne 7, 3)), (15, (.lload_n 0, 1)), (16, (.goto 4, 3)), (19, (.lload_n 2, 1)), (20, (.lload_n 0, 1)), (21, (.lload_n 2, 1)), (22, (.invokestatic 189, 3)), (25, (.ldiv, 1)), (26, (.lreturn, 1))]
set_option maxRecDepth 100000 in
theorem td_X5_partOf : tb_X5_partOf.all (fun q => decide (decode cX5_partOf q.1 = .ok q.2)) = true := by decide +kernel
def tb_X5_draught_0 : TB := [(0, (.aload_n 0, 1)), (1, (.iload_n 1, 1)), (2, (.invokevirtual 132, 3)), (5, (.ifCond .ne 9, 3)), (8, (.aload_n 0, 1)), (9, (.iconst (-1), 1)), (10, (.invokevirtual 193, 3)), (13, (.lreturn, 1)), (14, (.iload_n 2, 1)), (15, (.ifCond .lt 8, 3)), (18, (.iload_n 3, 1)), (19, (.iconst 2, 1)), (20, (.if_icmp .ge 10, 3)), (23, (.aload_n 0, 1)), (24, (.bipush (-4), 2)), (26, (.invokevirtual 193, 3)), (29, (.lreturn, 1)), (30, (.iload_n 2, 1)), (31, (.bipush 7, 2)), (33, (.if_icmp .gt 9, 3)), (36, (.iload_n 3, 1)), (37, (.bipush 20, 2)), (39, (.if_icmp .le 10, 3)), (42, (.aload_n 0, 1)), (43, (.bipush (-6), 2)), (45, (.invokevirtual 193, 3)), (48, (.lreturn, 1)), (49, (.iload 4, 2)), (51, (.iconst 0, 1)), (52, (.iconst 1, 1)), (53, (.invokestatic 44, 3)), (56, (.ifCond .ne 10, 3)), (59, (.aload_n 0, 1)), (60, (.bipush (-2), 2)), (62, (.invokevirtual 193, 3)), (65, (.lreturn, 1)), (66, (.lconst 0, 1)), (67, (.lstore 5, 2)), (69, (.lconst 1, 1)), (70, (.lstore 7, 2)), (72, (.iconst 0, 1)), (73, (.istore 9, 2)), (75, (.iload 9, 2)), (77, (.iload_n 2, 1)), (78, (.if_icmp .ge 16, 3)), (81, (.lload 7, 2)), (83, (.iload_n 3, 1)), (84, (.i2l, 1)), (85, (.lmul, 1)), (86, (.lstore 7, 2)), (88, (.iinc 9 1, 3)), (91, (.goto (-16), 3)), (94, (.iconst 0, 1)), (95, (.istore 9, 2)), (97, (.iload 9, 2)), (99, (.iconst 1, 1)), (100, (.iload_n 2, 1)), (101, (.ishl, 1)), (102, (.if_icmp .ge 114, 3)), (105, (.lconst 1, 1))]
set_option maxRecDepth 100000 in
theorem td_X5_draught_0 : tb_X5_draught_0.all (fun q => decide (decode cX5_draught q.1 = .ok q.2)) = true := by decide +kernel
def tb_X5_draught_1 : TB := [(106, (.lstore 10, 2)), (108, (.aload_n 0, 1)), (109, (.getfield 9, 3)), (112, (.aload_n 0, 1)), (113, (.getfield 13, 3)), (116, (.invokestatic 138, 3)), (119, (.iconst 0, 1)), (120, (.istore 12, 2)), (122, (.iload 12, 2)), (124, (.iload_n 2, 1)), (125, (.if_icmp .ge 63, 3)), (128, (.iload 9, 2)), (130, (.iload 12, 2)), (132, (.ishr, 1)), (133, (.iconst 1, 1)), (134, (.iand, 1)), (135, (.iconst 1, 1)), (136, (.if_icmp .ne 7, 3)), (139, (.iconst 1, 1)), (140, (.goto 4, 3)), (143, (.iconst 0, 1)), (144, (.istore 13, 2)), (146, (.lload 10, 2)), (148, (.iload 13, 2)), (150, (.ifCond .eq 7, 3)), (153, (.lconst 1, 1)), (154, (.goto 7, 3)), (157, (.iload_n 3, 1)), (158, (.iconst 1, 1)), (159, (.isub, 1)), (160, (.i2l, 1)), (161, (.lmul, 1)), (162, (.lstore 10, 2)), (164, (.iload 13, 2)), (166, (.ifCond .eq 8, 3)), (169, (.aload_n 0, 1)), (170, (.iconst 1, 1)), (171, (.invokevirtual 185, 3)), (174, (.aload_n 0, 1)), (175, (.aload_n 0, 1)), (176, (.getfield 13, 3)), (179, (.invokevirtual 82, 3)), (182, (.iinc 12 1, 3)), (185, (.goto (-63), 3)), (188, (.lload 5, 2)), (190, (.aload_n 0, 1)), (191, (.getfield 13, 3)), (194, (.iload_n 1, 1)), (195, (.invokestatic 51, 3)), (198, (.ifCond .eq 8, 3)), (201, (.lload 10, 2)), (203, (.goto 4, 3)), (206, (.lconst 0, 1)), (207, (.ladd, 1)), (208, (.lstore 5, 2)), (210, (.iinc 9 1, 3)), (213, (.goto (-116), 3)), (216, (.lload 5, 2)), (218, (.lload 7, 2)), (220, (.iload 4, 2))]
set_option maxRecDepth 100000 in
theorem td_X5_draught_1 : tb_X5_draught_1.all (fun q => decide (decode cX5_draught q.1 = .ok q.2)) = true := by decide +kernel
def tb_X5_draught_2 : TB := [(222, (.invokestatic 197, 3)), (225, (.lreturn, 1))]
set_option maxRecDepth 100000 in
theorem td_X5_draught_2 : tb_X5_draught_2.all (fun q => decide (decode cX5_draught q.1 = .ok q.2)) = true := by decide +kernel
def tb_X5_draught : TB := tb_X5_draught_0 ++ (tb_X5_draught_1 ++ (tb_X5_draught_2))
theorem td_X5_draught : tb_X5_draught.all (fun q => decide (decode cX5_draught q.1 = .ok q.2)) = true := by simp only [tb_X5_draught, List.all_append, td_X5_draught_0, td_X5_draught_1, td_X5_draught_2, Bool.and_self]
def tb_X5_upPushed : TB := [(0, (.aload_n 0, 1)), (1, (.getfield 9, 3)), (4, (.aload_n 0, 1)), (5, (.getfield 13, 3)), (8, (.invokestatic 138, 3)), (11, (.iload_n 2, 1)), (12, (.iconst 1, 1)), (13, (.if_icmp .ne 25, 3)), (16, (.aload_n 0, 1)), (17, (.getfield 13, 3)), (20, (.iload_n 1, 1)), (21, (.invokestatic 51, 3)), (24, (.ifCond .eq 14, 3)), (27, (.aload_n 0, 1)), (28, (.getfield 13, 3)), (31, (.iload_n 1, 1)), (32, (.invokestatic 79, 3)), (35, (.goto 4, 3)), (38, (.iconst 0, 1)), (39, (.istore 6, 2)), (41, (.iload 4, 2)), (43, (.iconst 1, 1)), (44, (.if_icmp .ne 25, 3)), (47, (.aload_n 0, 1)), (48, (.getfield 13, 3)), (51, (.iload_n 3, 1)), (52, (.invokestatic 51, 3)), (55, (.ifCond .eq 14, 3)), (58, (.aload_n 0, 1)), (59, (.getfield 13, 3)), (62, (.iload_n 3, 1)), (63, (.invokestatic 79, 3)), (66, (.goto 4, 3)), (69, (.iconst 0, 1)), (70, (.istore 7, 2)), (72, (.aload_n 0, 1)), (73, (.iload 5, 2)), (75, (.invokevirtual 158, 3)), (78, (.ireturn, 1))]
set_option maxRecDepth 100000 in
theorem td_X5_upPushed : tb_X5_upPushed.all (fun q => decide (decode cX5_upPushed q.1 = .ok q.2)) = true := by decide +kernel
def tb_X5_two_0 : TB := [(0, (.aload_n 0, 1)), (1, (.iload_n 1, 1)), (2, (.invokevirtual 132, 3)), (5, (.ifCond .eq 16, 3)), (8, (.aload_n 0, 1)), (9, (.iload_n 2, 1)), (10, (.invokevirtual 132, 3)), (13, (.ifCond .eq 8, 3)), (16, (.iload_n 1, 1)), (17, (.iload_n 2, 1)), (18, (.if_icmp .ne 7, 3)), (21, (.iconst (-1), 1)), (22, (.goto 9, 3)), (25, (.iload_n 3, 1)), (26, (.bipush 99, 2)), (28, (.invokestatic 151, 3)), (31, (.istore 4, 2)), (33, (.iload 4, 2)), (35, (.ifCond .eq 10, 3)), (38, (.aload_n 0, 1)), (39, (.iload 4, 2)), (41, (.invokevirtual 38, 3)), (44, (.ireturn, 1)), (45, (.iconst 0, 1)), (46, (.istore 5, 2)), (48, (.iload 5, 2)), (50, (.iconst 4, 1)), (51, (.if_icmp .ge 79, 3)), (54, (.iload 5, 2)), (56, (.iconst 2, 1)), (57, (.idiv, 1)), (58, (.istore 6, 2)), (60, (.iload 5, 2)), (62, (.iconst 2, 1)), (63, (.irem, 1)), (64, (.istore 7, 2)), (66, (.aload_n 0, 1)), (67, (.iload_n 1, 1)), (68, (.iload 6, 2)), (70, (.iload_n 2, 1)), (71, (.iload 7, 2)), (73, (.iload_n 3, 1)), (74, (.invokevirtual 201, 3)), (77, (.istore 8, 2)), (79, (.aload_n 0, 1)), (80, (.iload_n 1, 1)), (81, (.iconst 1, 1)), (82, (.iload 6, 2)), (84, (.isub, 1)), (85, (.iload_n 2, 1)), (86, (.iload 7, 2)), (88, (.iload_n 3, 1)), (89, (.invokevirtual 201, 3)), (92, (.iload 8, 2)), (94, (.if_icmp .gt 30, 3)), (97, (.aload_n 0, 1)), (98, (.iload_n 1, 1)), (99, (.iload 6, 2)), (101, (.iload_n 2, 1)), (102, (.iconst 1, 1))]
set_option maxRecDepth 100000 in
theorem td_X5_two_0 : tb_X5_two_0.all (fun q => decide (decode cX5_two q.1 = .ok q.2)) = true := by decide +kernel
def tb_X5_two_1 : TB := [(103, (.iload 7, 2)), (105, (.isub, 1)), (106, (.iload_n 3, 1)), (107, (.invokevirtual 201, 3)), (110, (.iload 8, 2)), (112, (.if_icmp .lt 12, 3)), (115, (.bipush 10, 2)), (117, (.iload 6, 2)), (119, (.imul, 1)), (120, (.iload 7, 2)), (122, (.iadd, 1)), (123, (.ireturn, 1)), (124, (.iinc 5 1, 3)), (127, (.goto (-79), 3)), (130, (.bipush (-9), 2)), (132, (.ireturn, 1))]
set_option maxRecDepth 100000 in
theorem td_X5_two_1 : tb_X5_two_1.all (fun q => decide (decode cX5_two q.1 = .ok q.2)) = true := by decide +kernel
def tb_X5_two : TB := tb_X5_two_0 ++ (tb_X5_two_1)
theorem td_X5_two : tb_X5_two.all (fun q => decide (decode cX5_two q.1 = .ok q.2)) = true := by simp only [tb_X5_two, List.all_append, td_X5_two_0, td_X5_two_1, Bool.and_self]
def tb_X5_whatWas_0 : TB := [(0, (.aload_n 0, 1)), (1, (.iload_n 1, 1)), (2, (.invokevirtual 123, 3)), (5, (.ifCond .ne 9, 3)), (8, (.aload_n 0, 1)), (9, (.iconst (-1), 1)), (10, (.invokevirtual 38, 3)), (13, (.ireturn, 1)), (14, (.iload_n 2, 1)), (15, (.iconst 0, 1)), (16, (.iconst 1, 1)), (17, (.invokestatic 44, 3)), (20, (.ifCond .ne 10, 3)), (23, (.aload_n 0, 1)), (24, (.bipush (-2), 2)), (26, (.invokevirtual 38, 3)), (29, (.ireturn, 1)), (30, (.iconst 0, 1)), (31, (.istore_n 3, 1)), (32, (.iconst 0, 1)), (33, (.istore 4, 2)), (35, (.iload 4, 2)), (37, (.iload_n 2, 1)), (38, (.ifCond .ne 8, 3)), (41, (.bipush 6, 2)), (43, (.goto 5, 3)), (46, (.bipush 10, 2)), (48, (.if_icmp .ge 109, 3)), (51, (.iconst 1, 1)), (52, (.istore 5, 2)), (54, (.aload_n 0, 1)), (55, (.getfield 9, 3)), (58, (.aload_n 0, 1)), (59, (.getfield 13, 3)), (62, (.invokestatic 138, 3)), (65, (.aload_n 0, 1)), (66, (.getfield 13, 3)), (69, (.iload_n 1, 1)), (70, (.invokestatic 55, 3)), (73, (.iload_n 2, 1)), (74, (.iadd, 1)), (75, (.iload 4, 2)), (77, (.iastore, 1)), (78, (.iconst 0, 1)), (79, (.istore 6, 2)), (81, (.iload 6, 2)), (83, (.aload_n 0, 1)), (84, (.getfield 205, 3)), (87, (.if_icmp .ge 48, 3)), (90, (.iload 5, 2)), (92, (.aload_n 0, 1)), (93, (.getfield 13, 3)), (96, (.iload_n 1, 1)), (97, (.invokestatic 55, 3)), (100, (.iconst 2, 1)), (101, (.iadd, 1)), (102, (.iaload, 1)), (103, (.aload_n 0, 1)), (104, (.getfield 28, 3)), (107, (.iload 6, 2))]
set_option maxRecDepth 100000 in
theorem td_X5_whatWas_0 : tb_X5_whatWas_0.all (fun q => decide (decode cX5_whatWas q.1 = .ok q.2)) = true := by decide +kernel
def tb_X5_whatWas_1 : TB := [(109, (.iaload, 1)), (110, (.if_icmp .ne 7, 3)), (113, (.iconst 1, 1)), (114, (.goto 4, 3)), (117, (.iconst 0, 1)), (118, (.iand, 1)), (119, (.istore 5, 2)), (121, (.aload_n 0, 1)), (122, (.aload_n 0, 1)), (123, (.getfield 13, 3)), (126, (.invokevirtual 82, 3)), (129, (.iinc 6 1, 3)), (132, (.goto (-51), 3)), (135, (.iload_n 3, 1)), (136, (.iload 5, 2)), (138, (.ifCond .eq 10, 3)), (141, (.iconst 1, 1)), (142, (.iload 4, 2)), (144, (.ishl, 1)), (145, (.goto 4, 3)), (148, (.iconst 0, 1)), (149, (.ior, 1)), (150, (.istore_n 3, 1)), (151, (.iinc 4 1, 3)), (154, (.goto (-119), 3)), (157, (.iload_n 3, 1)), (158, (.ireturn, 1))]
set_option maxRecDepth 100000 in
theorem td_X5_whatWas_1 : tb_X5_whatWas_1.all (fun q => decide (decode cX5_whatWas q.1 = .ok q.2)) = true := by decide +kernel
def tb_X5_whatWas : TB := tb_X5_whatWas_0 ++ (tb_X5_whatWas_1)
theorem td_X5_whatWas : tb_X5_whatWas.all (fun q => decide (decode cX5_whatWas q.1 = .ok q.2)) = true := by simp only [tb_X5_whatWas, List.all_append, td_X5_whatWas_0, td_X5_whatWas_1, Bool.and_self]
def tb_X5_row : TB := [(0, (.iload_n 1, 1)), (1, (.bipush 99, 2)), (3, (.invokestatic 151, 3)), (6, (.istore_n 2, 1)), (7, (.iload_n 2, 1)), (8, (.ifCond .ne 15, 3)), (11, (.aload_n 0, 1)), (12, (.getfield 205, 3)), (15, (.bipush 16, 2)), (17, (.if_icmp .ne 6, 3)), (20, (.bipush (-6), 2)), (22, (.istore_n 2, 1)), (23, (.iload_n 2, 1)), (24, (.ifCond .eq 9, 3)), (27, (.aload_n 0, 1)), (28, (.iload_n 2, 1)), (29, (.invokevirtual 38, 3)), (32, (.ireturn, 1)), (33, (.aload_n 0, 1)), (34, (.getfield 28, 3)), (37, (.aload_n 0, 1)), (38, (.getfield 205, 3)), (41, (.iload_n 1, 1)), (42, (.iastore, 1)), (43, (.aload_n 0, 1)), (44, (.dup, 1)), (45, (.getfield 205, 3)), (48, (.iconst 1, 1)), (49, (.iadd, 1)), (50, (.putfield 205, 3)), (53, (.aload_n 0, 1)), (54, (.getfield 205, 3)), (57, (.ireturn, 1))]
set_option maxRecDepth 100000 in
theorem td_X5_row : tb_X5_row.all (fun q => decide (decode cX5_row q.1 = .ok q.2)) = true := by decide +kernel
def tb_X5_judge : TB := [(0, (.aload_n 0, 1)), (1, (.getfield 205, 3)), (4, (.istore_n 1, 1)), (5, (.aload_n 0, 1)), (6, (.iconst 0, 1)), (7, (.putfield 205, 3)), (10, (.aload_n 0, 1)), (11, (.getfield 9, 3)), (14, (.aload_n 0, 1)), (15, (.getfield 13, 3)), (18, (.invokestatic 138, 3)), (21, (.iconst 0, 1)), (22, (.istore_n 2, 1)), (23, (.iload_n 2, 1)), (24, (.iload_n 1, 1)), (25, (.if_icmp .ge 38, 3)), (28, (.aload_n 0, 1)), (29, (.getfield 13, 3)), (32, (.invokestatic 90, 3)), (35, (.invokestatic 94, 3)), (38, (.aload_n 0, 1)), (39, (.getfield 28, 3)), (42, (.iload_n 2, 1)), (43, (.iaload, 1)), (44, (.if_icmp .eq 5, 3)), (47, (.iload_n 2, 1)), (48, (.ireturn, 1)), (49, (.aload_n 0, 1)), (50, (.aload_n 0, 1)), (51, (.getfield 13, 3)), (54, (.invokevirtual 82, 3)), (57, (.iinc 2 1, 3)), (60, (.goto (-37), 3)), (63, (.bipush (-9), 2)), (65, (.ireturn, 1))]
set_option maxRecDepth 100000 in
theorem td_X5_judge : tb_X5_judge.all (fun q => decide (decode cX5_judge q.1 = .ok q.2)) = true := by decide +kernel
def tb_X5_clear : TB := [(0, (.aload_n 0, 1)), (1, (.getfield 205, 3)), (4, (.istore_n 1, 1)), (5, (.aload_n 0, 1)), (6, (.iconst 0, 1)), (7, (.putfield 205, 3)), (10, (.iload_n 1, 1)), (11, (.ireturn, 1))]
set_option maxRecDepth 100000 in
theorem td_X5_clear : tb_X5_clear.all (fun q => decide (decode cX5_clear q.1 = .ok q.2)) = true := by decide +kernel
def tb_X5_drawn : TB := [(0, (.aload_n 0, 1)), (1, (.aload_n 0, 1)), (2, (.getfield 208, 3)), (5, (.ldc 211, 2)), (7, (.imul, 1)), (8, (.ldc 212, 2)), (10, (.iadd, 1)), (11, (.putfield 208, 3)), (14, (.aload_n 0, 1)), (15, (.getfield 208, 3)), (18, (.ldc 213, 2)), (20, (.iand, 1)), (21, (.sipush 256, 3)), (24, (.idiv, 1)), (25, (.iload_n 1, 1)), (26, (.irem, 1)), (27, (.ireturn, 1))]
set_option maxRecDepth 100000 in
theorem td_X5_drawn : tb_X5_drawn.all (fun q => decide (decode cX5_drawn q.1 = .ok q.2)) = true := by decide +kernel
def tb_X5_strengthAll : TB := [(0, (.iconst 0, 1)), (1, (.istore_n 1, 1)), (2, (.iconst 0, 1)), (3, (.istore_n 2, 1)), (4, (.iload_n 2, 1)), (5, (.aload_n 0, 1)), (6, (.iconst 0, 1)), (7, (.iaload, 1)), (8, (.if_icmp .ge 20, 3)), (11, (.iload_n 1, 1)), (12, (.aload_n 0, 1)), (13, (.iload_n 2, 1)), (14, (.invokestatic 55, 3)), (17, (.iconst 2, 1)), (18, (.iadd, 1)), (19, (.iaload, 1)), (20, (.iadd, 1)), (21, (.istore_n 1, 1)), (22, (.iinc 2 1, 3)), (25, (.goto (-21), 3)), (28, (.iload_n 1, 1)), (29, (.ireturn, 1))]
set_option maxRecDepth 100000 in
theorem td_X5_strengthAll : tb_X5_strengthAll.all (fun q => decide (decode cX5_strengthAll q.1 = .ok q.2)) = true := by decide +kernel
def tb_X5_lots_0 : TB := [(0, (.iload_n 1, 1)), (1, (.iconst 1, 1)), (2, (.if_icmp .ge 10, 3)), (5, (.aload_n 0, 1)), (6, (.bipush (-4), 2)), (8, (.invokevirtual 38, 3)), (11, (.ireturn, 1)), (12, (.iload_n 1, 1)), (13, (.bipush 20, 2)), (15, (.if_icmp .le 10, 3)), (18, (.aload_n 0, 1)), (19, (.bipush (-6), 2)), (21, (.invokevirtual 38, 3)), (24, (.ireturn, 1)), (25, (.iload_n 3, 1)), (26, (.iconst 0, 1)), (27, (.iconst 1, 1)), (28, (.invokestatic 44, 3)), (31, (.ifCond .ne 10, 3)), (34, (.aload_n 0, 1)), (35, (.bipush (-2), 2)), (37, (.invokevirtual 38, 3)), (40, (.ireturn, 1)), (41, (.aload_n 0, 1)), (42, (.getfield 9, 3)), (45, (.iconst 0, 1)), (46, (.iaload, 1)), (47, (.ifCond .ne 10, 3)), (50, (.aload_n 0, 1)), (51, (.bipush (-3), 2)), (53, (.invokevirtual 38, 3)), (56, (.ireturn, 1)), (57, (.aload_n 0, 1)), (58, (.iload_n 2, 1)), (59, (.putfield 208, 3)), (62, (.iconst 0, 1)), (63, (.istore 4, 2)), (65, (.iconst 0, 1)), (66, (.istore 5, 2)), (68, (.iload 5, 2)), (70, (.iload_n 1, 1)), (71, (.if_icmp .ge 91, 3)), (74, (.aload_n 0, 1)), (75, (.getfield 9, 3)), (78, (.aload_n 0, 1)), (79, (.getfield 13, 3)), (82, (.invokestatic 138, 3)), (85, (.iconst 0, 1)), (86, (.istore 6, 2)), (88, (.iload 6, 2)), (90, (.aload_n 0, 1)), (91, (.getfield 9, 3)), (94, (.iconst 1, 1)), (95, (.iaload, 1)), (96, (.if_icmp .ge 31, 3)), (99, (.aload_n 0, 1)), (100, (.getfield 13, 3)), (103, (.iload 6, 2)), (105, (.invokestatic 48, 3)), (108, (.iconst 2, 1))]
set_option maxRecDepth 100000 in
theorem td_X5_lots_0 : tb_X5_lots_0.all (fun q => decide (decode cX5_lots q.1 = .ok q.2)) = true := by decide +kernel
def tb_X5_lots_1 : TB := [(109, (.iadd, 1)), (110, (.aload_n 0, 1)), (111, (.aload_n 0, 1)), (112, (.getfield 9, 3)), (115, (.iconst 0, 1)), (116, (.iaload, 1)), (117, (.invokevirtual 214, 3)), (120, (.iastore, 1)), (121, (.iinc 6 1, 3)), (124, (.goto (-36), 3)), (127, (.aload_n 0, 1)), (128, (.bipush 20, 2)), (130, (.invokevirtual 158, 3)), (133, (.istore 6, 2)), (135, (.iload 4, 2)), (137, (.iload_n 3, 1)), (138, (.ifCond .ne 8, 3)), (141, (.iload 6, 2)), (143, (.goto 10, 3)), (146, (.aload_n 0, 1)), (147, (.getfield 13, 3)), (150, (.invokestatic 217, 3)), (153, (.iadd, 1)), (154, (.istore 4, 2)), (156, (.iinc 5 1, 3)), (159, (.goto (-91), 3)), (162, (.iload 4, 2)), (164, (.ireturn, 1))]
set_option maxRecDepth 100000 in
theorem td_X5_lots_1 : tb_X5_lots_1.all (fun q => decide (decode cX5_lots q.1 = .ok q.2)) = true := by decide +kernel
def tb_X5_lots : TB := tb_X5_lots_0 ++ (tb_X5_lots_1)
theorem td_X5_lots : tb_X5_lots.all (fun q => decide (decode cX5_lots q.1 = .ok q.2)) = true := by simp only [tb_X5_lots, List.all_append, td_X5_lots_0, td_X5_lots_1, Bool.and_self]
def tb_X5_image : TB := [(0, (.aload_n 0, 1)), (1, (.getfield 9, 3)), (4, (.aload_n 0, 1)), (5, (.getfield 16, 3)), (8, (.invokestatic 138, 3)), (11, (.aload_n 0, 1)), (12, (.iconst 1, 1)), (13, (.putfield 220, 3)), (16, (.aload_n 0, 1)), (17, (.getfield 9, 3)), (20, (.iconst 2, 1)), (21, (.iaload, 1)), (22, (.ireturn, 1))]
set_option maxRecDepth 100000 in
theorem td_X5_image : tb_X5_image.all (fun q => decide (decode cX5_image q.1 = .ok q.2)) = true := by decide +kernel
def tb_X5_on : TB := [(0, (.aload_n 0, 1)), (1, (.getfield 220, 3)), (4, (.ifCond .ne 10, 3)), (7, (.aload_n 0, 1)), (8, (.bipush (-3), 2)), (10, (.invokevirtual 38, 3)), (13, (.ireturn, 1)), (14, (.aload_n 0, 1)), (15, (.getfield 16, 3)), (18, (.aload_n 0, 1)), (19, (.getfield 9, 3)), (22, (.invokestatic 138, 3)), (25, (.aload_n 0, 1)), (26, (.getfield 9, 3)), (29, (.iconst 2, 1)), (30, (.iaload, 1)), (31, (.ireturn, 1))]
set_option maxRecDepth 100000 in
theorem td_X5_on : tb_X5_on.all (fun q => decide (decode cX5_on q.1 = .ok q.2)) = true := by decide +kernel
def tb_X5_count_0 : TB := [(0, (.iload_n 1, 1)), (1, (.bipush 11, 2)), (3, (.bipush 16, 2)), (5, (.invokestatic 44, 3)), (8, (.ifCond .eq 13, 3)), (11, (.aload_n 0, 1)), (12, (.getfield 31, 3)), (15, (.iload_n 1, 1)), (16, (.bipush 10, 2)), (18, (.isub, 1)), (19, (.iaload, 1)), (20, (.ireturn, 1)), (21, (.iload_n 1, 1)), (22, (.iconst 0, 1)), (23, (.iconst 2, 1)), (24, (.invokestatic 44, 3)), (27, (.ifCond .eq 10, 3)), (30, (.aload_n 0, 1)), (31, (.getfield 9, 3)), (34, (.iload_n 1, 1)), (35, (.iaload, 1)), (36, (.ireturn, 1)), (37, (.iconst 0, 1)), (38, (.istore_n 2, 1)), (39, (.iload_n 1, 1)), (40, (.tableswitch 93 3 7 #[36, 44, 52, 83, 88], 36)), (76, (.aload_n 0, 1)), (77, (.getfield 9, 3)), (80, (.invokestatic 90, 3)), (83, (.ireturn, 1)), (84, (.aload_n 0, 1)), (85, (.getfield 9, 3)), (88, (.invokestatic 217, 3)), (91, (.ireturn, 1)), (92, (.iconst 0, 1)), (93, (.istore_n 3, 1)), (94, (.iload_n 3, 1)), (95, (.aload_n 0, 1)), (96, (.getfield 9, 3)), (99, (.iconst 0, 1)), (100, (.iaload, 1)), (101, (.if_icmp .ge 20, 3)), (104, (.iload_n 2, 1)), (105, (.aload_n 0, 1)), (106, (.getfield 9, 3)), (109, (.iload_n 3, 1)), (110, (.invokestatic 58, 3)), (113, (.iadd, 1)), (114, (.istore_n 2, 1)), (115, (.iinc 3 1, 3)), (118, (.goto (-24), 3)), (121, (.iload_n 2, 1)), (122, (.ireturn, 1)), (123, (.aload_n 0, 1)), (124, (.getfield 205, 3)), (127, (.ireturn, 1)), (128, (.aload_n 0, 1)), (129, (.getfield 97, 3)), (132, (.ireturn, 1)), (133, (.bipush (-9), 2))]
set_option maxRecDepth 100000 in
theorem td_X5_count_0 : tb_X5_count_0.all (fun q => decide (decode cX5_count q.1 = .ok q.2)) = true := by decide +kernel
def tb_X5_count_1 : TB := [(135, (.ireturn, 1))]
set_option maxRecDepth 100000 in
theorem td_X5_count_1 : tb_X5_count_1.all (fun q => decide (decode cX5_count q.1 = .ok q.2)) = true := by decide +kernel
def tb_X5_count : TB := tb_X5_count_0 ++ (tb_X5_count_1)
theorem td_X5_count : tb_X5_count.all (fun q => decide (decode cX5_count q.1 = .ok q.2)) = true := by simp only [tb_X5_count, List.all_append, td_X5_count_0, td_X5_count_1, Bool.and_self]
end
section
def tb_J6_bitCount_0f7a4 : TB := [(0, (.iload_n 0, 1)), (1, (.iload_n 0, 1)), (2, (.iconst 1, 1)), (3, (.iushr, 1)), (4, (.ldc_w 265, 3)), (7, (.iand, 1)), (8, (.isub, 1)), (9, (.istore_n 0, 1)), (10, (.iload_n 0, 1)), (11, (.ldc_w 266, 3)), (14, (.iand, 1)), (15, (.iload_n 0, 1)), (16, (.iconst 2, 1)), (17, (.iushr, 1)), (18, (.ldc_w 266, 3)), (21, (.iand, 1)), (22, (.iadd, 1)), (23, (.istore_n 0, 1)), (24, (.iload_n 0, 1)), (25, (.iload_n 0, 1)), (26, (.iconst 4, 1)), (27, (.iushr, 1)), (28, (.iadd, 1)), (29, (.ldc_w 267, 3)), (32, (.iand, 1)), (33, (.istore_n 0, 1)), (34, (.iload_n 0, 1)), (35, (.iload_n 0, 1)), (36, (.bipush 8, 2)), (38, (.iushr, 1)), (39, (.iadd, 1)), (40, (.istore_n 0, 1)), (41, (.iload_n 0, 1)), (42, (.iload_n 0, 1)), (43, (.bipush 16, 2)), (45, (.iushr, 1)), (46, (.iadd, 1)), (47, (.istore_n 0, 1)), (48, (.iload_n 0, 1)), (49, (.bipush 63, 2)), (51, (.iand, 1)), (52, (.ireturn, 1))]
set_option maxRecDepth 100000 in
theorem td_J6_bitCount_0f7a4 : tb_J6_bitCount_0f7a4.all (fun q => decide (decode cJ6_bitCount_0f7a4 q.1 = .ok q.2)) = true := by decide +kernel
def tb_J0_length_8abf5 : TB := [(0, (.aload_n 0, 1)), (1, (.getfield 9, 3)), (4, (.arraylength, 1)), (5, (.aload_n 0, 1)), (6, (.invokevirtual 335, 3)), (9, (.ishr, 1)), (10, (.ireturn, 1))]
set_option maxRecDepth 100000 in
theorem td_J0_length_8abf5 : tb_J0_length_8abf5.all (fun q => decide (decode cJ0_length_8abf5 q.1 = .ok q.2)) = true := by decide +kernel
def tb_J0_charAt_5068e : TB := [(0, (.aload_n 0, 1)), (1, (.invokevirtual 492, 3)), (4, (.ifCond .eq 12, 3)), (7, (.aload_n 0, 1)), (8, (.getfield 9, 3)), (11, (.iload_n 1, 1)), (12, (.invokestatic 495, 3)), (15, (.ireturn, 1)), (16, (.aload_n 0, 1)), (17, (.getfield 9, 3)), (20, (.iload_n 1, 1)), (21, (.invokestatic 498, 3)), (24, (.ireturn, 1))]
set_option maxRecDepth 100000 in
theorem td_J0_charAt_5068e : tb_J0_charAt_5068e.all (fun q => decide (decode cJ0_charAt_5068e q.1 = .ok q.2)) = true := by decide +kernel
def tb_J0_indexOf_0f7a4 : TB := [(0, (.aload_n 0, 1)), (1, (.iload_n 1, 1)), (2, (.iconst 0, 1)), (3, (.invokevirtual 633, 3)), (6, (.ireturn, 1))]
set_option maxRecDepth 100000 in
theorem td_J0_indexOf_0f7a4 : tb_J0_indexOf_0f7a4.all (fun q => decide (decode cJ0_indexOf_0f7a4 q.1 = .ok q.2)) = true := by decide +kernel
def tb_J0_indexOf_7cf53 : TB := [(0, (.aload_n 0, 1)), (1, (.invokevirtual 492, 3)), (4, (.ifCond .eq 19, 3)), (7, (.aload_n 0, 1)), (8, (.getfield 9, 3)), (11, (.iload_n 1, 1)), (12, (.iload_n 2, 1)), (13, (.aload_n 0, 1)), (14, (.invokevirtual 505, 3)), (17, (.invokestatic 637, 3)), (20, (.goto 16, 3)), (23, (.aload_n 0, 1)), (24, (.getfield 9, 3)), (27, (.iload_n 1, 1)), (28, (.iload_n 2, 1)), (29, (.aload_n 0, 1)), (30, (.invokevirtual 505, 3)), (33, (.invokestatic 640, 3)), (36, (.ireturn, 1))]
set_option maxRecDepth 100000 in
theorem td_J0_indexOf_7cf53 : tb_J0_indexOf_7cf53.all (fun q => decide (decode cJ0_indexOf_7cf53 q.1 = .ok q.2)) = true := by decide +kernel
def tb_J0_coder_7d493 : TB := [(0, (.getstatic 38, 3)), (3, (.ifCond .eq 10, 3)), (6, (.aload_n 0, 1)), (7, (.getfield 15, 3)), (10, (.goto 4, 3)), (13, (.iconst 1, 1)), (14, (.ireturn, 1))]
set_option maxRecDepth 100000 in
theorem td_J0_coder_7d493 : tb_J0_coder_7d493.all (fun q => decide (decode cJ0_coder_7d493 q.1 = .ok q.2)) = true := by decide +kernel
def tb_J0_isLatin1_aae02 : TB := [(0, (.getstatic 38, 3)), (3, (.ifCond .eq 14, 3)), (6, (.aload_n 0, 1)), (7, (.getfield 15, 3)), (10, (.ifCond .ne 7, 3)), (13, (.iconst 1, 1)), (14, (.goto 4, 3)), (17, (.iconst 0, 1)), (18, (.ireturn, 1))]
set_option maxRecDepth 100000 in
theorem td_J0_isLatin1_aae02 : tb_J0_isLatin1_aae02.all (fun q => decide (decode cJ0_isLatin1_aae02 q.1 = .ok q.2)) = true := by decide +kernel
def tb_J0_checkIndex_df160 : TB := [(0, (.iload_n 0, 1)), (1, (.iload_n 1, 1)), (2, (.getstatic 1053, 3)), (5, (.invokestatic 1059, 3)), (8, (.pop, 1)), (9, (.return_, 1))]
set_option maxRecDepth 100000 in
theorem td_J0_checkIndex_df160 : tb_J0_checkIndex_df160.all (fun q => decide (decode cJ0_checkIndex_df160 q.1 = .ok q.2)) = true := by decide +kernel
def tb_J1_charAt_3b067 : TB := [(0, (.iload_n 1, 1)), (1, (.aload_n 0, 1)), (2, (.arraylength, 1)), (3, (.invokestatic 9, 3)), (6, (.aload_n 0, 1)), (7, (.iload_n 1, 1)), (8, (.baload, 1)), (9, (.sipush 255, 3)), (12, (.iand, 1)), (13, (.i2c, 1)), (14, (.ireturn, 1))]
set_option maxRecDepth 100000 in
theorem td_J1_charAt_3b067 : tb_J1_charAt_3b067.all (fun q => decide (decode cJ1_charAt_3b067 q.1 = .ok q.2)) = true := by decide +kernel
def tb_J1_canEncode_9a6ad : TB := [(0, (.iload_n 0, 1)), (1, (.ifCond .lt 14, 3)), (4, (.iload_n 0, 1)), (5, (.sipush 255, 3)), (8, (.if_icmp .gt 7, 3)), (11, (.iconst 1, 1)), (12, (.goto 4, 3)), (15, (.iconst 0, 1)), (16, (.ireturn, 1))]
set_option maxRecDepth 100000 in
theorem td_J1_canEncode_9a6ad : tb_J1_canEncode_9a6ad.all (fun q => decide (decode cJ1_canEncode_9a6ad q.1 = .ok q.2)) = true := by decide +kernel
def tb_J1_indexOf_4cfef : TB := [(0, (.iload_n 1, 1)), (1, (.invokestatic 88, 3)), (4, (.ifCond .ne 5, 3)), (7, (.iconst (-1), 1)), (8, (.ireturn, 1)), (9, (.iload_n 2, 1)), (10, (.iconst 0, 1)), (11, (.invokestatic 92, 3)), (14, (.istore_n 2, 1)), (15, (.iload_n 3, 1)), (16, (.aload_n 0, 1)), (17, (.arraylength, 1)), (18, (.invokestatic 38, 3)), (21, (.istore_n 3, 1)), (22, (.iload_n 2, 1)), (23, (.iload_n 3, 1)), (24, (.if_icmp .lt 5, 3)), (27, (.iconst (-1), 1)), (28, (.ireturn, 1)), (29, (.aload_n 0, 1)), (30, (.iload_n 1, 1)), (31, (.iload_n 2, 1)), (32, (.iload_n 3, 1)), (33, (.invokestatic 95, 3)), (36, (.ireturn, 1))]
set_option maxRecDepth 100000 in
theorem td_J1_indexOf_4cfef : tb_J1_indexOf_4cfef.all (fun q => decide (decode cJ1_indexOf_4cfef q.1 = .ok q.2)) = true := by decide +kernel
def tb_J1_indexOfChar_4cfef : TB := [(0, (.iload_n 1, 1)), (1, (.i2b, 1)), (2, (.istore 4, 2)), (4, (.iload_n 2, 1)), (5, (.istore 5, 2)), (7, (.iload 5, 2)), (9, (.iload_n 3, 1)), (10, (.if_icmp .ge 21, 3)), (13, (.aload_n 0, 1)), (14, (.iload 5, 2)), (16, (.baload, 1)), (17, (.iload 4, 2)), (19, (.if_icmp .ne 6, 3)), (22, (.iload 5, 2)), (24, (.ireturn, 1)), (25, (.iinc 5 1, 3)), (28, (.goto (-21), 3)), (31, (.iconst (-1), 1)), (32, (.ireturn, 1))]
set_option maxRecDepth 100000 in
theorem td_J1_indexOfChar_4cfef : tb_J1_indexOfChar_4cfef.all (fun q => decide (decode cJ1_indexOfChar_4cfef q.1 = .ok q.2)) = true := by decide +kernel
def tb_J3_checkIndex_8e157 : TB := [(0, (.iload_n 0, 1)), (1, (.ifCond .lt 8, 3)), (4, (.iload_n 0, 1)), (5, (.iload_n 1, 1)), (6, (.if_icmp .lt 10, 3)), (9, (.aload_n 2, 1)), (10, (.iload_n 0, 1)), (11, (.iload_n 1, 1)), (12, (.invokestatic 95, 3)), (15, (.athrow, 1)), (16, (.iload_n 0, 1)), (17, (.ireturn, 1))]
set_option maxRecDepth 100000 in
theorem td_J3_checkIndex_8e157 : tb_J3_checkIndex_8e157.all (fun q => decide (decode cJ3_checkIndex_8e157 q.1 = .ok q.2)) = true := by decide +kernel
end
section
def tb_L_law_0 : TB := [(16, (.iconst 0, 1)), (17, (.istore_n 3, 1)), (18, (.iload_n 3, 1)), (19, (.aload_n 0, 1)), (20, (.arraylength, 1)), (21, (.bipush 6, 2)), (23, (.isub, 1)), (24, (.if_icmp .gt 1328, 3)), (27, (.aload_n 0, 1)), (28, (.iload_n 3, 1)), (29, (.iaload, 1)), (30, (.bipush 63, 2)), (32, (.iand, 1)), (33, (.tableswitch 1313 0 40 #[179, 202, 215, 248, 271, 304, 327, 360, 393, 416, 439, 472, 515, 538, 571, 594, 637, 660, 683, 706, 729, 752, 775, 798, 861, 884, 907, 940, 973, 996, 1009, 1042, 1096, 1139, 1172, 1195, 1208, 1221, 1264, 1277, 1290], 179)), (212, (.aload_n 1, 1)), (213, (.aload_n 0, 1)), (214, (.iload_n 3, 1)), (215, (.iconst 1, 1)), (216, (.iadd, 1)), (217, (.iaload, 1)), (218, (.invokevirtual 13, 3)), (221, (.aload_n 2, 1)), (222, (.aload_n 0, 1)), (223, (.iload_n 3, 1))]
set_option maxRecDepth 100000 in
theorem td_L_law_0 : tb_L_law_0.all (fun q => decide (decode cL_law q.1 = .ok q.2)) = true := by decide +kernel
def tb_L_law_1 : TB := [(224, (.iconst 1, 1)), (225, (.iadd, 1)), (226, (.iaload, 1)), (227, (.invokevirtual 17, 3)), (230, (.if_icmp .eq 1116, 3)), (233, (.iconst 0, 1)), (234, (.ireturn, 1)), (235, (.aload_n 1, 1)), (236, (.invokevirtual 18, 3)), (239, (.aload_n 2, 1)), (240, (.invokevirtual 22, 3)), (243, (.if_icmp .eq 1103, 3)), (246, (.iconst 0, 1)), (247, (.ireturn, 1)), (248, (.aload_n 1, 1)), (249, (.aload_n 0, 1)), (250, (.iload_n 3, 1)), (251, (.iconst 1, 1)), (252, (.iadd, 1)), (253, (.iaload, 1)), (254, (.aload_n 0, 1)), (255, (.iload_n 3, 1)), (256, (.iconst 2, 1)), (257, (.iadd, 1))]
set_option maxRecDepth 100000 in
theorem td_L_law_1 : tb_L_law_1.all (fun q => decide (decode cL_law q.1 = .ok q.2)) = true := by decide +kernel
def tb_L_law_2 : TB := [(258, (.iaload, 1)), (259, (.invokevirtual 23, 3)), (262, (.aload_n 2, 1)), (263, (.aload_n 0, 1)), (264, (.iload_n 3, 1)), (265, (.iconst 1, 1)), (266, (.iadd, 1)), (267, (.iaload, 1)), (268, (.aload_n 0, 1)), (269, (.iload_n 3, 1)), (270, (.iconst 2, 1)), (271, (.iadd, 1)), (272, (.iaload, 1)), (273, (.invokevirtual 27, 3)), (276, (.if_icmp .eq 1070, 3)), (279, (.iconst 0, 1)), (280, (.ireturn, 1)), (281, (.aload_n 1, 1)), (282, (.aload_n 0, 1)), (283, (.iload_n 3, 1)), (284, (.iconst 1, 1)), (285, (.iadd, 1)), (286, (.iaload, 1)), (287, (.invokevirtual 28, 3))]
set_option maxRecDepth 100000 in
theorem td_L_law_2 : tb_L_law_2.all (fun q => decide (decode cL_law q.1 = .ok q.2)) = true := by decide +kernel
def tb_L_law_3 : TB := [(290, (.aload_n 2, 1)), (291, (.aload_n 0, 1)), (292, (.iload_n 3, 1)), (293, (.iconst 1, 1)), (294, (.iadd, 1)), (295, (.iaload, 1)), (296, (.invokevirtual 31, 3)), (299, (.if_icmp .eq 1047, 3)), (302, (.iconst 0, 1)), (303, (.ireturn, 1)), (304, (.aload_n 1, 1)), (305, (.aload_n 0, 1)), (306, (.iload_n 3, 1)), (307, (.iconst 1, 1)), (308, (.iadd, 1)), (309, (.iaload, 1)), (310, (.aload_n 0, 1)), (311, (.iload_n 3, 1)), (312, (.iconst 2, 1)), (313, (.iadd, 1)), (314, (.iaload, 1)), (315, (.invokevirtual 32, 3)), (318, (.aload_n 2, 1)), (319, (.aload_n 0, 1))]
set_option maxRecDepth 100000 in
theorem td_L_law_3 : tb_L_law_3.all (fun q => decide (decode cL_law q.1 = .ok q.2)) = true := by decide +kernel
def tb_L_law_4 : TB := [(320, (.iload_n 3, 1)), (321, (.iconst 1, 1)), (322, (.iadd, 1)), (323, (.iaload, 1)), (324, (.aload_n 0, 1)), (325, (.iload_n 3, 1)), (326, (.iconst 2, 1)), (327, (.iadd, 1)), (328, (.iaload, 1)), (329, (.invokevirtual 35, 3)), (332, (.if_icmp .eq 1014, 3)), (335, (.iconst 0, 1)), (336, (.ireturn, 1)), (337, (.aload_n 1, 1)), (338, (.aload_n 0, 1)), (339, (.iload_n 3, 1)), (340, (.iconst 1, 1)), (341, (.iadd, 1)), (342, (.iaload, 1)), (343, (.invokevirtual 36, 3)), (346, (.aload_n 2, 1)), (347, (.aload_n 0, 1)), (348, (.iload_n 3, 1)), (349, (.iconst 1, 1))]
set_option maxRecDepth 100000 in
theorem td_L_law_4 : tb_L_law_4.all (fun q => decide (decode cL_law q.1 = .ok q.2)) = true := by decide +kernel
def tb_L_law_5 : TB := [(350, (.iadd, 1)), (351, (.iaload, 1)), (352, (.invokevirtual 39, 3)), (355, (.if_icmp .eq 991, 3)), (358, (.iconst 0, 1)), (359, (.ireturn, 1)), (360, (.aload_n 1, 1)), (361, (.aload_n 0, 1)), (362, (.iload_n 3, 1)), (363, (.iconst 1, 1)), (364, (.iadd, 1)), (365, (.iaload, 1)), (366, (.aload_n 0, 1)), (367, (.iload_n 3, 1)), (368, (.iconst 2, 1)), (369, (.iadd, 1)), (370, (.iaload, 1)), (371, (.invokevirtual 40, 3)), (374, (.aload_n 2, 1)), (375, (.aload_n 0, 1)), (376, (.iload_n 3, 1)), (377, (.iconst 1, 1)), (378, (.iadd, 1)), (379, (.iaload, 1))]
set_option maxRecDepth 100000 in
theorem td_L_law_5 : tb_L_law_5.all (fun q => decide (decode cL_law q.1 = .ok q.2)) = true := by decide +kernel
def tb_L_law_6 : TB := [(380, (.aload_n 0, 1)), (381, (.iload_n 3, 1)), (382, (.iconst 2, 1)), (383, (.iadd, 1)), (384, (.iaload, 1)), (385, (.invokevirtual 43, 3)), (388, (.if_icmp .eq 958, 3)), (391, (.iconst 0, 1)), (392, (.ireturn, 1)), (393, (.aload_n 1, 1)), (394, (.aload_n 0, 1)), (395, (.iload_n 3, 1)), (396, (.iconst 1, 1)), (397, (.iadd, 1)), (398, (.iaload, 1)), (399, (.aload_n 0, 1)), (400, (.iload_n 3, 1)), (401, (.iconst 2, 1)), (402, (.iadd, 1)), (403, (.iaload, 1)), (404, (.invokevirtual 44, 3)), (407, (.aload_n 2, 1)), (408, (.aload_n 0, 1)), (409, (.iload_n 3, 1))]
set_option maxRecDepth 100000 in
theorem td_L_law_6 : tb_L_law_6.all (fun q => decide (decode cL_law q.1 = .ok q.2)) = true := by decide +kernel
def tb_L_law_7 : TB := [(410, (.iconst 1, 1)), (411, (.iadd, 1)), (412, (.iaload, 1)), (413, (.aload_n 0, 1)), (414, (.iload_n 3, 1)), (415, (.iconst 2, 1)), (416, (.iadd, 1)), (417, (.iaload, 1)), (418, (.invokevirtual 47, 3)), (421, (.if_icmp .eq 925, 3)), (424, (.iconst 0, 1)), (425, (.ireturn, 1)), (426, (.aload_n 1, 1)), (427, (.aload_n 0, 1)), (428, (.iload_n 3, 1)), (429, (.iconst 1, 1)), (430, (.iadd, 1)), (431, (.iaload, 1)), (432, (.invokevirtual 48, 3)), (435, (.aload_n 2, 1)), (436, (.aload_n 0, 1)), (437, (.iload_n 3, 1)), (438, (.iconst 1, 1)), (439, (.iadd, 1))]
set_option maxRecDepth 100000 in
theorem td_L_law_7 : tb_L_law_7.all (fun q => decide (decode cL_law q.1 = .ok q.2)) = true := by decide +kernel
def tb_L_law_8 : TB := [(440, (.iaload, 1)), (441, (.invokevirtual 51, 3)), (444, (.if_icmp .eq 902, 3)), (447, (.iconst 0, 1)), (448, (.ireturn, 1)), (449, (.aload_n 1, 1)), (450, (.aload_n 0, 1)), (451, (.iload_n 3, 1)), (452, (.iconst 1, 1)), (453, (.iadd, 1)), (454, (.iaload, 1)), (455, (.invokevirtual 52, 3)), (458, (.aload_n 2, 1)), (459, (.aload_n 0, 1)), (460, (.iload_n 3, 1)), (461, (.iconst 1, 1)), (462, (.iadd, 1)), (463, (.iaload, 1)), (464, (.invokevirtual 55, 3)), (467, (.if_icmp .eq 879, 3)), (470, (.iconst 0, 1)), (471, (.ireturn, 1)), (472, (.aload_n 1, 1)), (473, (.aload_n 0, 1))]
set_option maxRecDepth 100000 in
theorem td_L_law_8 : tb_L_law_8.all (fun q => decide (decode cL_law q.1 = .ok q.2)) = true := by decide +kernel
def tb_L_law_9 : TB := [(474, (.iload_n 3, 1)), (475, (.iconst 1, 1)), (476, (.iadd, 1)), (477, (.iaload, 1)), (478, (.aload_n 0, 1)), (479, (.iload_n 3, 1)), (480, (.iconst 2, 1)), (481, (.iadd, 1)), (482, (.iaload, 1)), (483, (.invokevirtual 56, 3)), (486, (.aload_n 2, 1)), (487, (.aload_n 0, 1)), (488, (.iload_n 3, 1)), (489, (.iconst 1, 1)), (490, (.iadd, 1)), (491, (.iaload, 1)), (492, (.aload_n 0, 1)), (493, (.iload_n 3, 1)), (494, (.iconst 2, 1)), (495, (.iadd, 1)), (496, (.iaload, 1)), (497, (.invokevirtual 59, 3)), (500, (.if_icmp .eq 846, 3)), (503, (.iconst 0, 1))]
set_option maxRecDepth 100000 in
theorem td_L_law_9 : tb_L_law_9.all (fun q => decide (decode cL_law q.1 = .ok q.2)) = true := by decide +kernel
def tb_L_law_10 : TB := [(504, (.ireturn, 1)), (505, (.aload_n 1, 1)), (506, (.aload_n 0, 1)), (507, (.iload_n 3, 1)), (508, (.iconst 1, 1)), (509, (.iadd, 1)), (510, (.iaload, 1)), (511, (.aload_n 0, 1)), (512, (.iload_n 3, 1)), (513, (.iconst 2, 1)), (514, (.iadd, 1)), (515, (.iaload, 1)), (516, (.aload_n 0, 1)), (517, (.iload_n 3, 1)), (518, (.iconst 3, 1)), (519, (.iadd, 1)), (520, (.iaload, 1)), (521, (.invokevirtual 60, 3)), (524, (.aload_n 2, 1)), (525, (.aload_n 0, 1)), (526, (.iload_n 3, 1)), (527, (.iconst 1, 1)), (528, (.iadd, 1)), (529, (.iaload, 1))]
set_option maxRecDepth 100000 in
theorem td_L_law_10 : tb_L_law_10.all (fun q => decide (decode cL_law q.1 = .ok q.2)) = true := by decide +kernel
def tb_L_law_11 : TB := [(530, (.aload_n 0, 1)), (531, (.iload_n 3, 1)), (532, (.iconst 2, 1)), (533, (.iadd, 1)), (534, (.iaload, 1)), (535, (.aload_n 0, 1)), (536, (.iload_n 3, 1)), (537, (.iconst 3, 1)), (538, (.iadd, 1)), (539, (.iaload, 1)), (540, (.invokevirtual 64, 3)), (543, (.if_icmp .eq 803, 3)), (546, (.iconst 0, 1)), (547, (.ireturn, 1)), (548, (.aload_n 1, 1)), (549, (.aload_n 0, 1)), (550, (.iload_n 3, 1)), (551, (.iconst 1, 1)), (552, (.iadd, 1)), (553, (.iaload, 1)), (554, (.invokevirtual 65, 3)), (557, (.aload_n 2, 1)), (558, (.aload_n 0, 1)), (559, (.iload_n 3, 1))]
set_option maxRecDepth 100000 in
theorem td_L_law_11 : tb_L_law_11.all (fun q => decide (decode cL_law q.1 = .ok q.2)) = true := by decide +kernel
def tb_L_law_12 : TB := [(560, (.iconst 1, 1)), (561, (.iadd, 1)), (562, (.iaload, 1)), (563, (.invokevirtual 68, 3)), (566, (.if_icmp .eq 780, 3)), (569, (.iconst 0, 1)), (570, (.ireturn, 1)), (571, (.aload_n 1, 1)), (572, (.aload_n 0, 1)), (573, (.iload_n 3, 1)), (574, (.iconst 1, 1)), (575, (.iadd, 1)), (576, (.iaload, 1)), (577, (.aload_n 0, 1)), (578, (.iload_n 3, 1)), (579, (.iconst 2, 1)), (580, (.iadd, 1)), (581, (.iaload, 1)), (582, (.invokevirtual 69, 3)), (585, (.aload_n 2, 1)), (586, (.aload_n 0, 1)), (587, (.iload_n 3, 1)), (588, (.iconst 1, 1)), (589, (.iadd, 1))]
set_option maxRecDepth 100000 in
theorem td_L_law_12 : tb_L_law_12.all (fun q => decide (decode cL_law q.1 = .ok q.2)) = true := by decide +kernel
def tb_L_law_13 : TB := [(590, (.iaload, 1)), (591, (.aload_n 0, 1)), (592, (.iload_n 3, 1)), (593, (.iconst 2, 1)), (594, (.iadd, 1)), (595, (.iaload, 1)), (596, (.invokevirtual 72, 3)), (599, (.if_icmp .eq 747, 3)), (602, (.iconst 0, 1)), (603, (.ireturn, 1)), (604, (.aload_n 1, 1)), (605, (.aload_n 0, 1)), (606, (.iload_n 3, 1)), (607, (.iconst 1, 1)), (608, (.iadd, 1)), (609, (.iaload, 1)), (610, (.invokevirtual 73, 3)), (613, (.aload_n 2, 1)), (614, (.aload_n 0, 1)), (615, (.iload_n 3, 1)), (616, (.iconst 1, 1)), (617, (.iadd, 1)), (618, (.iaload, 1)), (619, (.invokevirtual 76, 3))]
set_option maxRecDepth 100000 in
theorem td_L_law_13 : tb_L_law_13.all (fun q => decide (decode cL_law q.1 = .ok q.2)) = true := by decide +kernel
end
section
def tb_L_law_14 : TB := [(622, (.if_icmp .eq 724, 3)), (625, (.iconst 0, 1)), (626, (.ireturn, 1)), (627, (.aload_n 1, 1)), (628, (.aload_n 0, 1)), (629, (.iload_n 3, 1)), (630, (.iconst 1, 1)), (631, (.iadd, 1)), (632, (.iaload, 1)), (633, (.aload_n 0, 1)), (634, (.iload_n 3, 1)), (635, (.iconst 2, 1)), (636, (.iadd, 1)), (637, (.iaload, 1)), (638, (.aload_n 0, 1)), (639, (.iload_n 3, 1)), (640, (.iconst 3, 1)), (641, (.iadd, 1)), (642, (.iaload, 1)), (643, (.invokevirtual 77, 3)), (646, (.aload_n 2, 1)), (647, (.aload_n 0, 1)), (648, (.iload_n 3, 1)), (649, (.iconst 1, 1))]
set_option maxRecDepth 100000 in
theorem td_L_law_14 : tb_L_law_14.all (fun q => decide (decode cL_law q.1 = .ok q.2)) = true := by decide +kernel
def tb_L_law_15 : TB := [(650, (.iadd, 1)), (651, (.iaload, 1)), (652, (.aload_n 0, 1)), (653, (.iload_n 3, 1)), (654, (.iconst 2, 1)), (655, (.iadd, 1)), (656, (.iaload, 1)), (657, (.aload_n 0, 1)), (658, (.iload_n 3, 1)), (659, (.iconst 3, 1)), (660, (.iadd, 1)), (661, (.iaload, 1)), (662, (.invokevirtual 80, 3)), (665, (.if_icmp .eq 681, 3)), (668, (.iconst 0, 1)), (669, (.ireturn, 1)), (670, (.aload_n 1, 1)), (671, (.aload_n 0, 1)), (672, (.iload_n 3, 1)), (673, (.iconst 1, 1)), (674, (.iadd, 1)), (675, (.iaload, 1)), (676, (.invokevirtual 81, 3)), (679, (.aload_n 2, 1))]
set_option maxRecDepth 100000 in
theorem td_L_law_15 : tb_L_law_15.all (fun q => decide (decode cL_law q.1 = .ok q.2)) = true := by decide +kernel
def tb_L_law_16 : TB := [(680, (.aload_n 0, 1)), (681, (.iload_n 3, 1)), (682, (.iconst 1, 1)), (683, (.iadd, 1)), (684, (.iaload, 1)), (685, (.invokevirtual 84, 3)), (688, (.if_icmp .eq 658, 3)), (691, (.iconst 0, 1)), (692, (.ireturn, 1)), (693, (.aload_n 1, 1)), (694, (.aload_n 0, 1)), (695, (.iload_n 3, 1)), (696, (.iconst 1, 1)), (697, (.iadd, 1)), (698, (.iaload, 1)), (699, (.invokevirtual 85, 3)), (702, (.aload_n 2, 1)), (703, (.aload_n 0, 1)), (704, (.iload_n 3, 1)), (705, (.iconst 1, 1)), (706, (.iadd, 1)), (707, (.iaload, 1)), (708, (.invokevirtual 88, 3)), (711, (.if_icmp .eq 635, 3))]
set_option maxRecDepth 100000 in
theorem td_L_law_16 : tb_L_law_16.all (fun q => decide (decode cL_law q.1 = .ok q.2)) = true := by decide +kernel
def tb_L_law_17 : TB := [(714, (.iconst 0, 1)), (715, (.ireturn, 1)), (716, (.aload_n 1, 1)), (717, (.aload_n 0, 1)), (718, (.iload_n 3, 1)), (719, (.iconst 1, 1)), (720, (.iadd, 1)), (721, (.iaload, 1)), (722, (.invokevirtual 89, 3)), (725, (.aload_n 2, 1)), (726, (.aload_n 0, 1)), (727, (.iload_n 3, 1)), (728, (.iconst 1, 1)), (729, (.iadd, 1)), (730, (.iaload, 1)), (731, (.invokevirtual 92, 3)), (734, (.if_icmp .eq 612, 3)), (737, (.iconst 0, 1)), (738, (.ireturn, 1)), (739, (.aload_n 1, 1)), (740, (.aload_n 0, 1)), (741, (.iload_n 3, 1)), (742, (.iconst 1, 1)), (743, (.iadd, 1))]
set_option maxRecDepth 100000 in
theorem td_L_law_17 : tb_L_law_17.all (fun q => decide (decode cL_law q.1 = .ok q.2)) = true := by decide +kernel
def tb_L_law_18 : TB := [(744, (.iaload, 1)), (745, (.invokevirtual 93, 3)), (748, (.aload_n 2, 1)), (749, (.aload_n 0, 1)), (750, (.iload_n 3, 1)), (751, (.iconst 1, 1)), (752, (.iadd, 1)), (753, (.iaload, 1)), (754, (.invokevirtual 96, 3)), (757, (.if_icmp .eq 589, 3)), (760, (.iconst 0, 1)), (761, (.ireturn, 1)), (762, (.aload_n 1, 1)), (763, (.aload_n 0, 1)), (764, (.iload_n 3, 1)), (765, (.iconst 1, 1)), (766, (.iadd, 1)), (767, (.iaload, 1)), (768, (.invokevirtual 97, 3)), (771, (.aload_n 2, 1)), (772, (.aload_n 0, 1)), (773, (.iload_n 3, 1)), (774, (.iconst 1, 1)), (775, (.iadd, 1))]
set_option maxRecDepth 100000 in
theorem td_L_law_18 : tb_L_law_18.all (fun q => decide (decode cL_law q.1 = .ok q.2)) = true := by decide +kernel
def tb_L_law_19 : TB := [(776, (.iaload, 1)), (777, (.invokevirtual 100, 3)), (780, (.if_icmp .eq 566, 3)), (783, (.iconst 0, 1)), (784, (.ireturn, 1)), (785, (.aload_n 1, 1)), (786, (.aload_n 0, 1)), (787, (.iload_n 3, 1)), (788, (.iconst 1, 1)), (789, (.iadd, 1)), (790, (.iaload, 1)), (791, (.invokevirtual 101, 3)), (794, (.aload_n 2, 1)), (795, (.aload_n 0, 1)), (796, (.iload_n 3, 1)), (797, (.iconst 1, 1)), (798, (.iadd, 1)), (799, (.iaload, 1)), (800, (.invokevirtual 104, 3)), (803, (.if_icmp .eq 543, 3)), (806, (.iconst 0, 1)), (807, (.ireturn, 1)), (808, (.aload_n 1, 1)), (809, (.aload_n 0, 1))]
set_option maxRecDepth 100000 in
theorem td_L_law_19 : tb_L_law_19.all (fun q => decide (decode cL_law q.1 = .ok q.2)) = true := by decide +kernel
def tb_L_law_20 : TB := [(810, (.iload_n 3, 1)), (811, (.iconst 1, 1)), (812, (.iadd, 1)), (813, (.iaload, 1)), (814, (.invokevirtual 105, 3)), (817, (.aload_n 2, 1)), (818, (.aload_n 0, 1)), (819, (.iload_n 3, 1)), (820, (.iconst 1, 1)), (821, (.iadd, 1)), (822, (.iaload, 1)), (823, (.invokevirtual 108, 3)), (826, (.if_icmp .eq 520, 3)), (829, (.iconst 0, 1)), (830, (.ireturn, 1)), (831, (.aload_n 1, 1)), (832, (.aload_n 0, 1)), (833, (.iload_n 3, 1)), (834, (.iconst 1, 1)), (835, (.iadd, 1)), (836, (.iaload, 1)), (837, (.aload_n 0, 1)), (838, (.iload_n 3, 1)), (839, (.iconst 2, 1))]
set_option maxRecDepth 100000 in
theorem td_L_law_20 : tb_L_law_20.all (fun q => decide (decode cL_law q.1 = .ok q.2)) = true := by decide +kernel
def tb_L_law_21 : TB := [(840, (.iadd, 1)), (841, (.iaload, 1)), (842, (.aload_n 0, 1)), (843, (.iload_n 3, 1)), (844, (.iconst 3, 1)), (845, (.iadd, 1)), (846, (.iaload, 1)), (847, (.aload_n 0, 1)), (848, (.iload_n 3, 1)), (849, (.iconst 4, 1)), (850, (.iadd, 1)), (851, (.iaload, 1)), (852, (.aload_n 0, 1)), (853, (.iload_n 3, 1)), (854, (.iconst 5, 1)), (855, (.iadd, 1)), (856, (.iaload, 1)), (857, (.invokevirtual 109, 3)), (860, (.aload_n 2, 1)), (861, (.aload_n 0, 1)), (862, (.iload_n 3, 1)), (863, (.iconst 1, 1)), (864, (.iadd, 1)), (865, (.iaload, 1))]
set_option maxRecDepth 100000 in
theorem td_L_law_21 : tb_L_law_21.all (fun q => decide (decode cL_law q.1 = .ok q.2)) = true := by decide +kernel
def tb_L_law_22 : TB := [(866, (.aload_n 0, 1)), (867, (.iload_n 3, 1)), (868, (.iconst 2, 1)), (869, (.iadd, 1)), (870, (.iaload, 1)), (871, (.aload_n 0, 1)), (872, (.iload_n 3, 1)), (873, (.iconst 3, 1)), (874, (.iadd, 1)), (875, (.iaload, 1)), (876, (.aload_n 0, 1)), (877, (.iload_n 3, 1)), (878, (.iconst 4, 1)), (879, (.iadd, 1)), (880, (.iaload, 1)), (881, (.aload_n 0, 1)), (882, (.iload_n 3, 1)), (883, (.iconst 5, 1)), (884, (.iadd, 1)), (885, (.iaload, 1)), (886, (.invokevirtual 113, 3)), (889, (.if_icmp .eq 457, 3)), (892, (.iconst 0, 1)), (893, (.ireturn, 1))]
set_option maxRecDepth 100000 in
theorem td_L_law_22 : tb_L_law_22.all (fun q => decide (decode cL_law q.1 = .ok q.2)) = true := by decide +kernel
def tb_L_law_23 : TB := [(894, (.aload_n 1, 1)), (895, (.aload_n 0, 1)), (896, (.iload_n 3, 1)), (897, (.iconst 1, 1)), (898, (.iadd, 1)), (899, (.iaload, 1)), (900, (.invokevirtual 114, 3)), (903, (.aload_n 2, 1)), (904, (.aload_n 0, 1)), (905, (.iload_n 3, 1)), (906, (.iconst 1, 1)), (907, (.iadd, 1)), (908, (.iaload, 1)), (909, (.invokevirtual 117, 3)), (912, (.if_icmp .eq 434, 3)), (915, (.iconst 0, 1)), (916, (.ireturn, 1)), (917, (.aload_n 1, 1)), (918, (.aload_n 0, 1)), (919, (.iload_n 3, 1)), (920, (.iconst 1, 1)), (921, (.iadd, 1)), (922, (.iaload, 1)), (923, (.invokevirtual 118, 3))]
set_option maxRecDepth 100000 in
theorem td_L_law_23 : tb_L_law_23.all (fun q => decide (decode cL_law q.1 = .ok q.2)) = true := by decide +kernel
def tb_L_law_24 : TB := [(926, (.aload_n 2, 1)), (927, (.aload_n 0, 1)), (928, (.iload_n 3, 1)), (929, (.iconst 1, 1)), (930, (.iadd, 1)), (931, (.iaload, 1)), (932, (.invokevirtual 121, 3)), (935, (.if_icmp .eq 411, 3)), (938, (.iconst 0, 1)), (939, (.ireturn, 1)), (940, (.aload_n 1, 1)), (941, (.aload_n 0, 1)), (942, (.iload_n 3, 1)), (943, (.iconst 1, 1)), (944, (.iadd, 1)), (945, (.iaload, 1)), (946, (.aload_n 0, 1)), (947, (.iload_n 3, 1)), (948, (.iconst 2, 1)), (949, (.iadd, 1)), (950, (.iaload, 1)), (951, (.invokevirtual 122, 3)), (954, (.aload_n 2, 1)), (955, (.aload_n 0, 1))]
set_option maxRecDepth 100000 in
theorem td_L_law_24 : tb_L_law_24.all (fun q => decide (decode cL_law q.1 = .ok q.2)) = true := by decide +kernel
def tb_L_law_25 : TB := [(956, (.iload_n 3, 1)), (957, (.iconst 1, 1)), (958, (.iadd, 1)), (959, (.iaload, 1)), (960, (.aload_n 0, 1)), (961, (.iload_n 3, 1)), (962, (.iconst 2, 1)), (963, (.iadd, 1)), (964, (.iaload, 1)), (965, (.invokevirtual 125, 3)), (968, (.if_icmp .eq 378, 3)), (971, (.iconst 0, 1)), (972, (.ireturn, 1)), (973, (.aload_n 1, 1)), (974, (.aload_n 0, 1)), (975, (.iload_n 3, 1)), (976, (.iconst 1, 1)), (977, (.iadd, 1)), (978, (.iaload, 1)), (979, (.aload_n 0, 1)), (980, (.iload_n 3, 1)), (981, (.iconst 2, 1)), (982, (.iadd, 1)), (983, (.iaload, 1))]
set_option maxRecDepth 100000 in
theorem td_L_law_25 : tb_L_law_25.all (fun q => decide (decode cL_law q.1 = .ok q.2)) = true := by decide +kernel
def tb_L_law_26 : TB := [(984, (.invokevirtual 126, 3)), (987, (.aload_n 2, 1)), (988, (.aload_n 0, 1)), (989, (.iload_n 3, 1)), (990, (.iconst 1, 1)), (991, (.iadd, 1)), (992, (.iaload, 1)), (993, (.aload_n 0, 1)), (994, (.iload_n 3, 1)), (995, (.iconst 2, 1)), (996, (.iadd, 1)), (997, (.iaload, 1)), (998, (.invokevirtual 129, 3)), (1001, (.if_icmp .eq 345, 3)), (1004, (.iconst 0, 1)), (1005, (.ireturn, 1)), (1006, (.aload_n 1, 1)), (1007, (.aload_n 0, 1)), (1008, (.iload_n 3, 1)), (1009, (.iconst 1, 1)), (1010, (.iadd, 1)), (1011, (.iaload, 1)), (1012, (.invokevirtual 130, 3)), (1015, (.aload_n 2, 1))]
set_option maxRecDepth 100000 in
theorem td_L_law_26 : tb_L_law_26.all (fun q => decide (decode cL_law q.1 = .ok q.2)) = true := by decide +kernel
def tb_L_law_27 : TB := [(1016, (.aload_n 0, 1)), (1017, (.iload_n 3, 1)), (1018, (.iconst 1, 1)), (1019, (.iadd, 1)), (1020, (.iaload, 1)), (1021, (.invokevirtual 133, 3)), (1024, (.if_icmp .eq 322, 3)), (1027, (.iconst 0, 1)), (1028, (.ireturn, 1)), (1029, (.aload_n 1, 1)), (1030, (.invokevirtual 134, 3)), (1033, (.aload_n 2, 1)), (1034, (.invokevirtual 137, 3)), (1037, (.if_icmp .eq 309, 3)), (1040, (.iconst 0, 1)), (1041, (.ireturn, 1)), (1042, (.aload_n 1, 1)), (1043, (.aload_n 0, 1)), (1044, (.iload_n 3, 1)), (1045, (.iconst 1, 1)), (1046, (.iadd, 1)), (1047, (.iaload, 1)), (1048, (.aload_n 0, 1)), (1049, (.iload_n 3, 1))]
set_option maxRecDepth 100000 in
theorem td_L_law_27 : tb_L_law_27.all (fun q => decide (decode cL_law q.1 = .ok q.2)) = true := by decide +kernel
end
section
def tb_L_law_28 : TB := [(1050, (.iconst 2, 1)), (1051, (.iadd, 1)), (1052, (.iaload, 1)), (1053, (.invokevirtual 138, 3)), (1056, (.aload_n 2, 1)), (1057, (.aload_n 0, 1)), (1058, (.iload_n 3, 1)), (1059, (.iconst 1, 1)), (1060, (.iadd, 1)), (1061, (.iaload, 1)), (1062, (.aload_n 0, 1)), (1063, (.iload_n 3, 1)), (1064, (.iconst 2, 1)), (1065, (.iadd, 1)), (1066, (.iaload, 1)), (1067, (.invokevirtual 141, 3)), (1070, (.if_icmp .eq 276, 3)), (1073, (.iconst 0, 1)), (1074, (.ireturn, 1)), (1075, (.aload_n 1, 1)), (1076, (.aload_n 0, 1)), (1077, (.iload_n 3, 1)), (1078, (.iconst 1, 1)), (1079, (.iadd, 1))]
set_option maxRecDepth 100000 in
theorem td_L_law_28 : tb_L_law_28.all (fun q => decide (decode cL_law q.1 = .ok q.2)) = true := by decide +kernel
def tb_L_law_29 : TB := [(1080, (.iaload, 1)), (1081, (.aload_n 0, 1)), (1082, (.iload_n 3, 1)), (1083, (.iconst 2, 1)), (1084, (.iadd, 1)), (1085, (.iaload, 1)), (1086, (.aload_n 0, 1)), (1087, (.iload_n 3, 1)), (1088, (.iconst 3, 1)), (1089, (.iadd, 1)), (1090, (.iaload, 1)), (1091, (.aload_n 0, 1)), (1092, (.iload_n 3, 1)), (1093, (.iconst 4, 1)), (1094, (.iadd, 1)), (1095, (.iaload, 1)), (1096, (.invokevirtual 142, 3)), (1099, (.aload_n 2, 1)), (1100, (.aload_n 0, 1)), (1101, (.iload_n 3, 1)), (1102, (.iconst 1, 1)), (1103, (.iadd, 1)), (1104, (.iaload, 1)), (1105, (.aload_n 0, 1))]
set_option maxRecDepth 100000 in
theorem td_L_law_29 : tb_L_law_29.all (fun q => decide (decode cL_law q.1 = .ok q.2)) = true := by decide +kernel
def tb_L_law_30 : TB := [(1106, (.iload_n 3, 1)), (1107, (.iconst 2, 1)), (1108, (.iadd, 1)), (1109, (.iaload, 1)), (1110, (.aload_n 0, 1)), (1111, (.iload_n 3, 1)), (1112, (.iconst 3, 1)), (1113, (.iadd, 1)), (1114, (.iaload, 1)), (1115, (.aload_n 0, 1)), (1116, (.iload_n 3, 1)), (1117, (.iconst 4, 1)), (1118, (.iadd, 1)), (1119, (.iaload, 1)), (1120, (.invokevirtual 146, 3)), (1123, (.lcmp, 1)), (1124, (.ifCond .eq 222, 3)), (1127, (.iconst 0, 1)), (1128, (.ireturn, 1)), (1129, (.aload_n 1, 1)), (1130, (.aload_n 0, 1)), (1131, (.iload_n 3, 1)), (1132, (.iconst 1, 1)), (1133, (.iadd, 1))]
set_option maxRecDepth 100000 in
theorem td_L_law_30 : tb_L_law_30.all (fun q => decide (decode cL_law q.1 = .ok q.2)) = true := by decide +kernel
def tb_L_law_31 : TB := [(1134, (.iaload, 1)), (1135, (.aload_n 0, 1)), (1136, (.iload_n 3, 1)), (1137, (.iconst 2, 1)), (1138, (.iadd, 1)), (1139, (.iaload, 1)), (1140, (.aload_n 0, 1)), (1141, (.iload_n 3, 1)), (1142, (.iconst 3, 1)), (1143, (.iadd, 1)), (1144, (.iaload, 1)), (1145, (.invokevirtual 147, 3)), (1148, (.aload_n 2, 1)), (1149, (.aload_n 0, 1)), (1150, (.iload_n 3, 1)), (1151, (.iconst 1, 1)), (1152, (.iadd, 1)), (1153, (.iaload, 1)), (1154, (.aload_n 0, 1)), (1155, (.iload_n 3, 1)), (1156, (.iconst 2, 1)), (1157, (.iadd, 1)), (1158, (.iaload, 1)), (1159, (.aload_n 0, 1))]
set_option maxRecDepth 100000 in
theorem td_L_law_31 : tb_L_law_31.all (fun q => decide (decode cL_law q.1 = .ok q.2)) = true := by decide +kernel
def tb_L_law_32 : TB := [(1160, (.iload_n 3, 1)), (1161, (.iconst 3, 1)), (1162, (.iadd, 1)), (1163, (.iaload, 1)), (1164, (.invokevirtual 150, 3)), (1167, (.if_icmp .eq 179, 3)), (1170, (.iconst 0, 1)), (1171, (.ireturn, 1)), (1172, (.aload_n 1, 1)), (1173, (.aload_n 0, 1)), (1174, (.iload_n 3, 1)), (1175, (.iconst 1, 1)), (1176, (.iadd, 1)), (1177, (.iaload, 1)), (1178, (.aload_n 0, 1)), (1179, (.iload_n 3, 1)), (1180, (.iconst 2, 1)), (1181, (.iadd, 1)), (1182, (.iaload, 1)), (1183, (.invokevirtual 151, 3)), (1186, (.aload_n 2, 1)), (1187, (.aload_n 0, 1)), (1188, (.iload_n 3, 1)), (1189, (.iconst 1, 1))]
set_option maxRecDepth 100000 in
theorem td_L_law_32 : tb_L_law_32.all (fun q => decide (decode cL_law q.1 = .ok q.2)) = true := by decide +kernel
def tb_L_law_33 : TB := [(1190, (.iadd, 1)), (1191, (.iaload, 1)), (1192, (.aload_n 0, 1)), (1193, (.iload_n 3, 1)), (1194, (.iconst 2, 1)), (1195, (.iadd, 1)), (1196, (.iaload, 1)), (1197, (.invokevirtual 154, 3)), (1200, (.if_icmp .eq 146, 3)), (1203, (.iconst 0, 1)), (1204, (.ireturn, 1)), (1205, (.aload_n 1, 1)), (1206, (.aload_n 0, 1)), (1207, (.iload_n 3, 1)), (1208, (.iconst 1, 1)), (1209, (.iadd, 1)), (1210, (.iaload, 1)), (1211, (.invokevirtual 155, 3)), (1214, (.aload_n 2, 1)), (1215, (.aload_n 0, 1)), (1216, (.iload_n 3, 1)), (1217, (.iconst 1, 1)), (1218, (.iadd, 1)), (1219, (.iaload, 1))]
set_option maxRecDepth 100000 in
theorem td_L_law_33 : tb_L_law_33.all (fun q => decide (decode cL_law q.1 = .ok q.2)) = true := by decide +kernel
def tb_L_law_34 : TB := [(1220, (.invokevirtual 158, 3)), (1223, (.if_icmp .eq 123, 3)), (1226, (.iconst 0, 1)), (1227, (.ireturn, 1)), (1228, (.aload_n 1, 1)), (1229, (.invokevirtual 159, 3)), (1232, (.aload_n 2, 1)), (1233, (.invokevirtual 162, 3)), (1236, (.if_icmp .eq 110, 3)), (1239, (.iconst 0, 1)), (1240, (.ireturn, 1)), (1241, (.aload_n 1, 1)), (1242, (.invokevirtual 163, 3)), (1245, (.aload_n 2, 1)), (1246, (.invokevirtual 166, 3)), (1249, (.if_icmp .eq 97, 3)), (1252, (.iconst 0, 1)), (1253, (.ireturn, 1)), (1254, (.aload_n 1, 1)), (1255, (.aload_n 0, 1)), (1256, (.iload_n 3, 1)), (1257, (.iconst 1, 1)), (1258, (.iadd, 1)), (1259, (.iaload, 1))]
set_option maxRecDepth 100000 in
theorem td_L_law_34 : tb_L_law_34.all (fun q => decide (decode cL_law q.1 = .ok q.2)) = true := by decide +kernel
def tb_L_law_35 : TB := [(1260, (.aload_n 0, 1)), (1261, (.iload_n 3, 1)), (1262, (.iconst 2, 1)), (1263, (.iadd, 1)), (1264, (.iaload, 1)), (1265, (.aload_n 0, 1)), (1266, (.iload_n 3, 1)), (1267, (.iconst 3, 1)), (1268, (.iadd, 1)), (1269, (.iaload, 1)), (1270, (.invokevirtual 167, 3)), (1273, (.aload_n 2, 1)), (1274, (.aload_n 0, 1)), (1275, (.iload_n 3, 1)), (1276, (.iconst 1, 1)), (1277, (.iadd, 1)), (1278, (.iaload, 1)), (1279, (.aload_n 0, 1)), (1280, (.iload_n 3, 1)), (1281, (.iconst 2, 1)), (1282, (.iadd, 1)), (1283, (.iaload, 1)), (1284, (.aload_n 0, 1)), (1285, (.iload_n 3, 1))]
set_option maxRecDepth 100000 in
theorem td_L_law_35 : tb_L_law_35.all (fun q => decide (decode cL_law q.1 = .ok q.2)) = true := by decide +kernel
def tb_L_law_36 : TB := [(1286, (.iconst 3, 1)), (1287, (.iadd, 1)), (1288, (.iaload, 1)), (1289, (.invokevirtual 170, 3)), (1292, (.if_icmp .eq 54, 3)), (1295, (.iconst 0, 1)), (1296, (.ireturn, 1)), (1297, (.aload_n 1, 1)), (1298, (.invokevirtual 171, 3)), (1301, (.aload_n 2, 1)), (1302, (.invokevirtual 174, 3)), (1305, (.if_icmp .eq 41, 3)), (1308, (.iconst 0, 1)), (1309, (.ireturn, 1)), (1310, (.aload_n 1, 1)), (1311, (.invokevirtual 175, 3)), (1314, (.aload_n 2, 1)), (1315, (.invokevirtual 178, 3)), (1318, (.if_icmp .eq 28, 3)), (1321, (.iconst 0, 1)), (1322, (.ireturn, 1)), (1323, (.aload_n 1, 1)), (1324, (.aload_n 0, 1)), (1325, (.iload_n 3, 1))]
set_option maxRecDepth 100000 in
theorem td_L_law_36 : tb_L_law_36.all (fun q => decide (decode cL_law q.1 = .ok q.2)) = true := by decide +kernel
def tb_L_law_37 : TB := [(1326, (.iconst 1, 1)), (1327, (.iadd, 1)), (1328, (.iaload, 1)), (1329, (.invokevirtual 179, 3)), (1332, (.aload_n 2, 1)), (1333, (.aload_n 0, 1)), (1334, (.iload_n 3, 1)), (1335, (.iconst 1, 1)), (1336, (.iadd, 1)), (1337, (.iaload, 1)), (1338, (.invokevirtual 182, 3)), (1341, (.if_icmp .eq 5, 3)), (1344, (.iconst 0, 1)), (1345, (.ireturn, 1)), (1346, (.iinc 3 6, 3)), (1349, (.goto (-1331), 3)), (1352, (.iconst 1, 1)), (1353, (.ireturn, 1))]
set_option maxRecDepth 100000 in
theorem td_L_law_37 : tb_L_law_37.all (fun q => decide (decode cL_law q.1 = .ok q.2)) = true := by decide +kernel
def tb_L_law : TB := tb_L_law_0 ++ (tb_L_law_1 ++ (tb_L_law_2 ++ (tb_L_law_3 ++ (tb_L_law_4 ++ (tb_L_law_5 ++ (tb_L_law_6 ++ (tb_L_law_7 ++ (tb_L_law_8 ++ (tb_L_law_9 ++ (tb_L_law_10 ++ (tb_L_law_11 ++ (tb_L_law_12 ++ (tb_L_law_13 ++ (tb_L_law_14 ++ (tb_L_law_15 ++ (tb_L_law_16 ++ (tb_L_law_17 ++ (tb_L_law_18 ++ (tb_L_law_19 ++ (tb_L_law_20 ++ (tb_L_law_21 ++ (tb_L_law_22 ++ (tb_L_law_23 ++ (tb_L_law_24 ++ (tb_L_law_25 ++ (tb_L_law_26 ++ (tb_L_law_27 ++ (tb_L_law_28 ++ (tb_L_law_29 ++ (tb_L_law_30 ++ (tb_L_law_31 ++ (tb_L_law_32 ++ (tb_L_law_33 ++ (tb_L_law_34 ++ (tb_L_law_35 ++ (tb_L_law_36 ++ (tb_L_law_37)))))))))))))))))))))))))))))))))))))
theorem td_L_law : tb_L_law.all (fun q => decide (decode cL_law q.1 = .ok q.2)) = true := by simp only [tb_L_law, List.all_append, td_L_law_0, td_L_law_1, td_L_law_2, td_L_law_3, td_L_law_4, td_L_law_5, td_L_law_6, td_L_law_7, td_L_law_8, td_L_law_9, td_L_law_10, td_L_law_11, td_L_law_12, td_L_law_13, td_L_law_14, td_L_law_15, td_L_law_16, td_L_law_17, td_L_law_18, td_L_law_19, td_L_law_20, td_L_law_21, td_L_law_22, td_L_law_23, td_L_law_24, td_L_law_25, td_L_law_26, td_L_law_27, td_L_law_28, td_L_law_29, td_L_law_30, td_L_law_31, td_L_law_32, td_L_law_33, td_L_law_34, td_L_law_35, td_L_law_36, td_L_law_37, Bool.and_self]
end
section
abbrev MT : Type := MethodName × (ByteArray × (Option FieldType × TB))
def mT : List MT := [
  (yX0_add, (cX0_add, ((none), tb_X0_add))),
  (yX0_formOf, (cX0_formOf, ((some (FieldType.object "java/lang/String")), tb_X0_formOf))),
  (yX0_fits, (cX0_fits, ((some FieldType.boolean), tb_X0_fits))),
  (yX0_kindOf, (cX0_kindOf, ((some FieldType.int), tb_X0_kindOf))),
  (yX0_firstWrong, (cX0_firstWrong, ((some FieldType.int), tb_X0_firstWrong))),
  (yX0_letterAt, (cX0_letterAt, ((some FieldType.int), tb_X0_letterAt))),
  (yX0_digitAt, (cX0_digitAt, ((some FieldType.int), tb_X0_digitAt))),
  (yX0_numberAt, (cX0_numberAt, ((some FieldType.int), tb_X0_numberAt))),
  (yX0_tell, (cX0_tell, ((some FieldType.boolean), tb_X0_tell))),
  (yX0_tellDays, (cX0_tellDays, ((some FieldType.boolean), tb_X0_tellDays))),
  (yX1_hear, (cX1_hear, ((some FieldType.int), tb_X1_hear))),
  (yX1_behind, (cX1_behind, ((some (FieldType.object "LeansAgainstReason$Rack")), tb_X1_behind))),
  (yX1_downBehind, (cX1_downBehind, ((some FieldType.int), tb_X1_downBehind))),
  (yX1_downFromThen, (cX1_downFromThen, ((some FieldType.int), tb_X1_downFromThen))),
  (yX1_firstDownBehind, (cX1_firstDownBehind, ((some FieldType.int), tb_X1_firstDownBehind))),
  (yX1_flatBehind, (cX1_flatBehind, ((some FieldType.int), tb_X1_flatBehind))),
  (yX1_betterLean, (cX1_betterLean, ((some FieldType.int), tb_X1_betterLean))),
  (yX1_bestOfThree, (cX1_bestOfThree, ((some FieldType.int), tb_X1_bestOfThree))),
  (yX1_standingLeant, (cX1_standingLeant, ((some FieldType.int), tb_X1_standingLeant))),
  (yX1_toMend, (cX1_toMend, ((some FieldType.int), tb_X1_toMend))),
  (yX1_toBreak, (cX1_toBreak, ((some FieldType.int), tb_X1_toBreak))),
  (yX1_standingWith, (cX1_standingWith, ((some FieldType.int), tb_X1_standingWith))),
  (yX1_safestPlace, (cX1_safestPlace, ((some FieldType.int), tb_X1_safestPlace))),
  (yX1_felledFrom, (cX1_felledFrom, ((some FieldType.int), tb_X1_felledFrom))),
  (yX1_standingRobbed, (cX1_standingRobbed, ((some FieldType.int), tb_X1_standingRobbed))),
  (yX1_nothingToRobBehind, (cX1_nothingToRobBehind, ((some FieldType.int), tb_X1_nothingToRobBehind))),
  (yX1_waysUp, (cX1_waysUp, ((some FieldType.long), tb_X1_waysUp))),
  (yX1_isUpDraughted, (cX1_isUpDraughted, ((some FieldType.boolean), tb_X1_isUpDraughted))),
  (yX1_settled, (cX1_settled, ((some FieldType.int), tb_X1_settled))),
  (yX1_standingPushed, (cX1_standingPushed, ((some FieldType.int), tb_X1_standingPushed))),
  (yX1_weakensAs, (cX1_weakensAs, ((some FieldType.boolean), tb_X1_weakensAs))),
  (yX1_firstMisjudged, (cX1_firstMisjudged, ((some FieldType.int), tb_X1_firstMisjudged))),
  (yX1_termsByLot, (cX1_termsByLot, ((some FieldType.int), tb_X1_termsByLot))),
  (yX1_nextSeed, (cX1_nextSeed, ((some FieldType.int), tb_X1_nextSeed))),
  (yX1_drawBelow, (cX1_drawBelow, ((some FieldType.int), tb_X1_drawBelow))),
  (yX2_become, (cX2_become, ((none), tb_X2_become))),
  (yX2_isPurpose, (cX2_isPurpose, ((some FieldType.boolean), tb_X2_isPurpose))),
  (yX2_isThing, (cX2_isThing, ((some FieldType.boolean), tb_X2_isThing))),
  (yX2_isUp, (cX2_isUp, ((some FieldType.boolean), tb_X2_isUp))),
  (yX2_isFreeFor, (cX2_isFreeFor, ((some FieldType.boolean), tb_X2_isFreeFor))),
  (yX2_standing, (cX2_standing, ((some FieldType.int), tb_X2_standing))),
  (yX2_spareOf, (cX2_spareOf, ((some FieldType.int), tb_X2_spareOf))),
  (yX2_allStrength, (cX2_allStrength, ((some FieldType.int), tb_X2_allStrength))),
  (yX2_allLoad, (cX2_allLoad, ((some FieldType.int), tb_X2_allLoad))),
  (yX2_addPurpose, (cX2_addPurpose, ((some FieldType.boolean), tb_X2_addPurpose))),
  (yX2_addThing, (cX2_addThing, ((some FieldType.boolean), tb_X2_addThing))),
  (yX2_leanOn, (cX2_leanOn, ((some FieldType.boolean), tb_X2_leanOn))),
  (yX2_raise, (cX2_raise, ((some FieldType.boolean), tb_X2_raise))),
  (yX2_strengthen, (cX2_strengthen, ((some FieldType.boolean), tb_X2_strengthen))),
  (yX2_moveTo, (cX2_moveTo, ((none), tb_X2_moveTo))),
  (yX2_weigh, (cX2_weigh, ((none), tb_X2_weigh))),
  (yX2_passDays, (cX2_passDays, ((none), tb_X2_passDays))),
  (yX2_passDay, (cX2_passDay, ((none), tb_X2_passDay))),
  (yX2_heaviestOn, (cX2_heaviestOn, ((some FieldType.int), tb_X2_heaviestOn))),
  (yX2_topple, (cX2_topple, ((some FieldType.int), tb_X2_topple))),
  (yX2_felledBy, (cX2_felledBy, ((some FieldType.int), tb_X2_felledBy))),
  (yX2_leastPlaced, (cX2_leastPlaced, ((some FieldType.int), tb_X2_leastPlaced))),
  (yX2_leastPlacedWithoutSpare, (cX2_leastPlacedWithoutSpare, ((some FieldType.int), tb_X2_leastPlacedWithoutSpare))),
  (yX2_worstPush, (cX2_worstPush, ((some FieldType.int), tb_X2_worstPush))),
  (yX2_gapBehind, (cX2_gapBehind, ((some FieldType.int), tb_X2_gapBehind))),
  (yX2_besideFrom, (cX2_besideFrom, ((some FieldType.int), tb_X2_besideFrom))),
  (yX2_longestFrom, (cX2_longestFrom, ((some FieldType.int), tb_X2_longestFrom))),
  (yX2_mostWithin, (cX2_mostWithin, ((some FieldType.int), tb_X2_mostWithin))),
  (yX2_weightOf, (cX2_weightOf, ((some FieldType.int), tb_X2_weightOf))),
  (yX3_by, (cX3_by, ((some FieldType.int), tb_X3_by))),
  (yX3_ofHabit, (cX3_ofHabit, ((some FieldType.int), tb_X3_ofHabit))),
  (yX4_letter, (cX4_letter, ((some FieldType.int), tb_X4_letter))),
  (yX4_rack, (cX4_rack, ((some FieldType.int), tb_X4_rack))),
  (yX4_purpose, (cX4_purpose, ((some FieldType.int), tb_X4_purpose))),
  (yX4_lessNextDay, (cX4_lessNextDay, ((some FieldType.int), tb_X4_lessNextDay))),
  (yX4_spare, (cX4_spare, ((some FieldType.int), tb_X4_spare))),
  (yX4_thing, (cX4_thing, ((some FieldType.int), tb_X4_thing))),
  (yX4_at, (cX4_at, ((some FieldType.int), tb_X4_at))),
  (yX4_count, (cX4_count, ((some FieldType.int), tb_X4_count))),
  (yX4_leans, (cX4_leans, ((some FieldType.int), tb_X4_leans))),
  (yX4_moves, (cX4_moves, ((some FieldType.int), tb_X4_moves))),
  (yX4_setsUp, (cX4_setsUp, ((some FieldType.int), tb_X4_setsUp))),
  (yX4_pushes, (cX4_pushes, ((some FieldType.int), tb_X4_pushes))),
  (yX4_strong, (cX4_strong, ((some FieldType.int), tb_X4_strong))),
  (yX4_turn, (cX4_turn, ((some FieldType.int), tb_X4_turn))),
  (yX4_days, (cX4_days, ((some FieldType.int), tb_X4_days))),
  (yX4_upThen, (cX4_upThen, ((some FieldType.int), tb_X4_upThen))),
  (yX4_allThen, (cX4_allThen, ((some FieldType.int), tb_X4_allThen))),
  (yX4_purposeThen, (cX4_purposeThen, ((some FieldType.int), tb_X4_purposeThen))),
  (yX4_falls, (cX4_falls, ((some FieldType.int), tb_X4_falls))),
  (yX4_first, (cX4_first, ((some FieldType.int), tb_X4_first))),
  (yX4_pushed, (cX4_pushed, ((some FieldType.int), tb_X4_pushed))),
  (yX4_worst, (cX4_worst, ((some FieldType.int), tb_X4_worst))),
  (yX4_gap, (cX4_gap, ((some FieldType.int), tb_X4_gap))),
  (yX4_longest, (cX4_longest, ((some FieldType.int), tb_X4_longest))),
  (yX4_bestPlace, (cX4_bestPlace, ((some FieldType.int), tb_X4_bestPlace))),
  (yX4_lean, (cX4_lean, ((some FieldType.int), tb_X4_lean))),
  (yX4_bestLeans, (cX4_bestLeans, ((some FieldType.int), tb_X4_bestLeans))),
  (yX4_mended, (cX4_mended, ((some FieldType.int), tb_X4_mended))),
  (yX4_key, (cX4_key, ((some FieldType.int), tb_X4_key))),
  (yX4_takes, (cX4_takes, ((some FieldType.int), tb_X4_takes))),
  (yX4_balanced, (cX4_balanced, ((some FieldType.int), tb_X4_balanced))),
  (yX4_thief, (cX4_thief, ((some FieldType.int), tb_X4_thief))),
  (yX4_robbed, (cX4_robbed, ((some FieldType.int), tb_X4_robbed))),
  (yX4_draught, (cX4_draught, ((some FieldType.long), tb_X4_draught))),
  (yX4_offDraught, (cX4_offDraught, ((some FieldType.int), tb_X4_offDraught))),
  (yX4_two, (cX4_two, ((some FieldType.int), tb_X4_two))),
  (yX4_whatWas, (cX4_whatWas, ((some FieldType.int), tb_X4_whatWas))),
  (yX4_kindsThatFit, (cX4_kindsThatFit, ((some FieldType.int), tb_X4_kindsThatFit))),
  (yX4_figuresThatFit, (cX4_figuresThatFit, ((some FieldType.int), tb_X4_figuresThatFit))),
  (yX4_row, (cX4_row, ((some FieldType.int), tb_X4_row))),
  (yX4_judge, (cX4_judge, ((some FieldType.int), tb_X4_judge))),
  (yX4_clear, (cX4_clear, ((some FieldType.int), tb_X4_clear))),
  (yX4_lots, (cX4_lots, ((some FieldType.int), tb_X4_lots))),
  (yX4_image, (cX4_image, ((some FieldType.int), tb_X4_image))),
  (yX4_on, (cX4_on, ((some FieldType.int), tb_X4_on))),
  (yX4_refuse, (cX4_refuse, ((some FieldType.int), tb_X4_refuse))),
  (yX4_offUpThing, (cX4_offUpThing, ((some FieldType.int), tb_X4_offUpThing))),
  (yX4_outside, (cX4_outside, ((some FieldType.int), tb_X4_outside))),
  (yX4_isNeither, (cX4_isNeither, ((some FieldType.boolean), tb_X4_isNeither))),
  (yX4_isPlace, (cX4_isPlace, ((some FieldType.boolean), tb_X4_isPlace))),
  (yX4_has, (cX4_has, ((some FieldType.boolean), tb_X4_has))),
  (yX4_power, (cX4_power, ((some FieldType.long), tb_X4_power))),
  (yX4_commonDivisor, (cX4_commonDivisor, ((some FieldType.long), tb_X4_commonDivisor))),
  (yX5_isIn, (cX5_isIn, ((some FieldType.boolean), tb_X5_isIn))),
  (yX5_most, (cX5_most, ((some FieldType.int), tb_X5_most))),
  (yX5_copies, (cX5_copies, ((none), tb_X5_copies))),
  (yX5_no, (cX5_no, ((some FieldType.int), tb_X5_no))),
  (yX5_noFar, (cX5_noFar, ((some FieldType.int), tb_X5_noFar))),
  (yX5_noWide, (cX5_noWide, ((some FieldType.long), tb_X5_noWide))),
  (yX5_ofP, (cX5_ofP, ((some FieldType.int), tb_X5_ofP))),
  (yX5_ofT, (cX5_ofT, ((some FieldType.int), tb_X5_ofT))),
  (yX5_isPurpose, (cX5_isPurpose, ((some FieldType.boolean), tb_X5_isPurpose))),
  (yX5_isThing, (cX5_isThing, ((some FieldType.boolean), tb_X5_isThing))),
  (yX5_isPlace, (cX5_isPlace, ((some FieldType.boolean), tb_X5_isPlace))),
  (yX5_isUp, (cX5_isUp, ((some FieldType.boolean), tb_X5_isUp))),
  (yX5_bits, (cX5_bits, ((some FieldType.int), tb_X5_bits))),
  (yX5_loadOf, (cX5_loadOf, ((some FieldType.int), tb_X5_loadOf))),
  (yX5_spareOf, (cX5_spareOf, ((some FieldType.int), tb_X5_spareOf))),
  (yX5_lessBy, (cX5_lessBy, ((some FieldType.int), tb_X5_lessBy))),
  (yX5_whoAt, (cX5_whoAt, ((some FieldType.int), tb_X5_whoAt))),
  (yX5_fells, (cX5_fells, ((some FieldType.int), tb_X5_fells))),
  (yX5_heaviestOn, (cX5_heaviestOn, ((some FieldType.int), tb_X5_heaviestOn))),
  (yX5_day, (cX5_day, ((none), tb_X5_day))),
  (yX5_daysOn, (cX5_daysOn, ((none), tb_X5_daysOn))),
  (yX5_upSet, (cX5_upSet, ((some FieldType.int), tb_X5_upSet))),
  (yX5_upIn, (cX5_upIn, ((some FieldType.int), tb_X5_upIn))),
  (yX5_letter, (cX5_letter, ((some FieldType.int), tb_X5_letter))),
  (yX5_here, (cX5_here, ((some FieldType.int), tb_X5_here))),
  (yX5_readsNumber, (cX5_readsNumber, ((some FieldType.boolean), tb_X5_readsNumber))),
  (yX5_kindBy, (cX5_kindBy, ((some FieldType.int), tb_X5_kindBy))),
  (yX5_readsKind, (cX5_readsKind, ((some FieldType.boolean), tb_X5_readsKind))),
  (yX5_readsStatement, (cX5_readsStatement, ((some FieldType.boolean), tb_X5_readsStatement))),
  (yX5_addsPurpose, (cX5_addsPurpose, ((some FieldType.boolean), tb_X5_addsPurpose))),
  (yX5_addsThing, (cX5_addsThing, ((some FieldType.boolean), tb_X5_addsThing))),
  (yX5_isDone, (cX5_isDone, ((some FieldType.boolean), tb_X5_isDone))),
  (yX5_rack, (cX5_rack, ((some FieldType.int), tb_X5_rack))),
  (yX5_purpose, (cX5_purpose, ((some FieldType.int), tb_X5_purpose))),
  (yX5_spare, (cX5_spare, ((some FieldType.int), tb_X5_spare))),
  (yX5_thing, (cX5_thing, ((some FieldType.int), tb_X5_thing))),
  (yX5_at, (cX5_at, ((some FieldType.int), tb_X5_at))),
  (yX5_leans, (cX5_leans, ((some FieldType.int), tb_X5_leans))),
  (yX5_moves, (cX5_moves, ((some FieldType.int), tb_X5_moves))),
  (yX5_setsUp, (cX5_setsUp, ((some FieldType.int), tb_X5_setsUp))),
  (yX5_wrongUp, (cX5_wrongUp, ((some FieldType.int), tb_X5_wrongUp))),
  (yX5_pushes, (cX5_pushes, ((some FieldType.int), tb_X5_pushes))),
  (yX5_wrongBy, (cX5_wrongBy, ((some FieldType.int), tb_X5_wrongBy))),
  (yX5_strong, (cX5_strong, ((some FieldType.int), tb_X5_strong))),
  (yX5_turn, (cX5_turn, ((some FieldType.int), tb_X5_turn))),
  (yX5_days, (cX5_days, ((some FieldType.int), tb_X5_days))),
  (yX5_takesOn, (cX5_takesOn, ((none), tb_X5_takesOn))),
  (yX5_upThen, (cX5_upThen, ((some FieldType.int), tb_X5_upThen))),
  (yX5_allThen, (cX5_allThen, ((some FieldType.int), tb_X5_allThen))),
  (yX5_purposeThen, (cX5_purposeThen, ((some FieldType.int), tb_X5_purposeThen))),
  (yX5_downIn, (cX5_downIn, ((some FieldType.int), tb_X5_downIn))),
  (yX5_fallsOf, (cX5_fallsOf, ((some FieldType.int), tb_X5_fallsOf))),
  (yX5_falls, (cX5_falls, ((some FieldType.int), tb_X5_falls))),
  (yX5_first, (cX5_first, ((some FieldType.int), tb_X5_first))),
  (yX5_pushedBy, (cX5_pushedBy, ((some FieldType.int), tb_X5_pushedBy))),
  (yX5_pushed, (cX5_pushed, ((some FieldType.int), tb_X5_pushed))),
  (yX5_worst, (cX5_worst, ((some FieldType.int), tb_X5_worst))),
  (yX5_gap, (cX5_gap, ((some FieldType.int), tb_X5_gap))),
  (yX5_longest, (cX5_longest, ((some FieldType.int), tb_X5_longest))),
  (yX5_orNever, (cX5_orNever, ((some FieldType.int), tb_X5_orNever))),
  (yX5_lean, (cX5_lean, ((some FieldType.int), tb_X5_lean))),
  (yX5_bestLeans, (cX5_bestLeans, ((some FieldType.int), tb_X5_bestLeans))),
  (yX5_upWith, (cX5_upWith, ((some FieldType.int), tb_X5_upWith))),
  (yX5_mended, (cX5_mended, ((some FieldType.int), tb_X5_mended))),
  (yX5_key, (cX5_key, ((some FieldType.int), tb_X5_key))),
  (yX5_takes, (cX5_takes, ((some FieldType.int), tb_X5_takes))),
  (yX5_weightOf, (cX5_weightOf, ((some FieldType.int), tb_X5_weightOf))),
  (yX5_balanced, (cX5_balanced, ((some FieldType.int), tb_X5_balanced))),
  (yX5_leastToPush, (cX5_leastToPush, ((some FieldType.int), tb_X5_leastToPush))),
  (yX5_pushesLeast, (cX5_pushesLeast, ((none), tb_X5_pushesLeast))),
  (yX5_thief, (cX5_thief, ((some FieldType.int), tb_X5_thief))),
  (yX5_robbed, (cX5_robbed, ((some FieldType.int), tb_X5_robbed))),
  (yX5_bestPlace, (cX5_bestPlace, ((some FieldType.int), tb_X5_bestPlace))),
  (yX5_gcd, (cX5_gcd, ((some FieldType.long), tb_X5_gcd))),
  (yX5_partOf, (cX5_partOf, ((some FieldType.long), tb_X5_partOf))),
  (yX5_draught, (cX5_draught, ((some FieldType.long), tb_X5_draught))),
  (yX5_upPushed, (cX5_upPushed, ((some FieldType.int), tb_X5_upPushed))),
  (yX5_two, (cX5_two, ((some FieldType.int), tb_X5_two))),
  (yX5_whatWas, (cX5_whatWas, ((some FieldType.int), tb_X5_whatWas))),
  (yX5_row, (cX5_row, ((some FieldType.int), tb_X5_row))),
  (yX5_judge, (cX5_judge, ((some FieldType.int), tb_X5_judge))),
  (yX5_clear, (cX5_clear, ((some FieldType.int), tb_X5_clear))),
  (yX5_drawn, (cX5_drawn, ((some FieldType.int), tb_X5_drawn))),
  (yX5_strengthAll, (cX5_strengthAll, ((some FieldType.int), tb_X5_strengthAll))),
  (yX5_lots, (cX5_lots, ((some FieldType.int), tb_X5_lots))),
  (yX5_image, (cX5_image, ((some FieldType.int), tb_X5_image))),
  (yX5_on, (cX5_on, ((some FieldType.int), tb_X5_on))),
  (yX5_count, (cX5_count, ((some FieldType.int), tb_X5_count))),
  (yJ6_bitCount_0f7a4, (cJ6_bitCount_0f7a4, ((some FieldType.int), tb_J6_bitCount_0f7a4))),
  (yJ0_length_8abf5, (cJ0_length_8abf5, ((some FieldType.int), tb_J0_length_8abf5))),
  (yJ0_charAt_5068e, (cJ0_charAt_5068e, ((some FieldType.char), tb_J0_charAt_5068e))),
  (yJ0_indexOf_0f7a4, (cJ0_indexOf_0f7a4, ((some FieldType.int), tb_J0_indexOf_0f7a4))),
  (yJ0_indexOf_7cf53, (cJ0_indexOf_7cf53, ((some FieldType.int), tb_J0_indexOf_7cf53))),
  (yJ0_coder_7d493, (cJ0_coder_7d493, ((some FieldType.byte), tb_J0_coder_7d493))),
  (yJ0_isLatin1_aae02, (cJ0_isLatin1_aae02, ((some FieldType.boolean), tb_J0_isLatin1_aae02))),
  (yJ0_checkIndex_df160, (cJ0_checkIndex_df160, ((none), tb_J0_checkIndex_df160))),
  (yJ1_charAt_3b067, (cJ1_charAt_3b067, ((some FieldType.char), tb_J1_charAt_3b067))),
  (yJ1_canEncode_9a6ad, (cJ1_canEncode_9a6ad, ((some FieldType.boolean), tb_J1_canEncode_9a6ad))),
  (yJ1_indexOf_4cfef, (cJ1_indexOf_4cfef, ((some FieldType.int), tb_J1_indexOf_4cfef))),
  (yJ1_indexOfChar_4cfef, (cJ1_indexOfChar_4cfef, ((some FieldType.int), tb_J1_indexOfChar_4cfef))),
  (yJ3_checkIndex_8e157, (cJ3_checkIndex_8e157, ((some FieldType.int), tb_J3_checkIndex_8e157))),
  (yL_law, (code, (some .boolean, tb_L_law)))]
def mD : MT := (yX0_add, (cX0_add, (none, [])))
abbrev MI : Type := Nat × (Nat × (Nat × (Nat × (Nat × (Nat × Bool)))))
def mI : List MI := [(0, (2, (0, (0, (0, (2, false)))))), (0, (1, (0, (0, (6, (1, true)))))), (0, (2, (5, (111, (2, (2, true)))))), (0, (1, (4, (91, (1, (1, true)))))), (0, (4, (6, (132, (1, (1, false)))))), (0, (2, (0, (0, (1, (2, false)))))), (0, (2, (1, (21, (1, (2, false)))))), (0, (2, (2, (42, (1, (2, false)))))), (0, (3, (5, (111, (2, (3, false)))))), (0, (3, (3, (72, (2, (2, true)))))), (1, (5, (6, (133, (1, (2, false)))))), (1, (2, (4, (94, (6, (2, false)))))), (1, (2, (4, (94, (1, (2, false)))))), (1, (3, (3, (72, (1, (2, false)))))), (1, (2, (3, (72, (1, (1, false)))))), (1, (2, (3, (72, (1, (1, false)))))), (1, (7, (4, (94, (1, (2, false)))))), (1, (12, (5, (119, (1, (5, false)))))), (1, (6, (4, (94, (1, (6, false)))))), (1, (6, (5, (117, (1, (2, false)))))), (1, (6, (5, (117, (1, (2, false)))))), (1, (4, (4, (94, (1, (4, false)))))), (1, (6, (4, (91, (1, (2, false)))))), (1, (3, (3, (69, (1, (3, false)))))), (1, (3, (3, (72, (1, (2, false)))))), (1, (3, (3, (72, (1, (1, false)))))), (1, (7, (4, (96, (5, (4, false)))))), (1, (5, (3, (72, (2, (4, false)))))), (1, (5, (5, (117, (1, (4, false)))))), (1, (4, (4, (94, (1, (4, false)))))), (1, (7, (3, (72, (2, (6, false)))))), (1, (4, (3, (72, (1, (3, false)))))), (1, (8, (4, (94, (1, (4, false)))))), (1, (1, (0, (0, (1, (1, true)))))), (1, (2, (0, (0, (1, (2, true)))))), (2, (2, (1, (48, (0, (2, false)))))), (2, (2, (0, (0, (2, (2, false)))))), (2, (2, (0, (0, (2, (2, false)))))), (2, (2, (0, (0, (2, (2, false)))))), (2, (3, (1, (20, (2, (3, false)))))), (2, (1, (1, (20, (1, (1, false)))))), (2, (2, (1, (21, (1, (2, false)))))), (2, (3, (0, (0, (1, (1, false)))))), (2, (3, (0, (0, (1, (1, false)))))), (2, (4, (0, (0, (2, (4, false)))))), (2, (5, (2, (44, (2, (4, false)))))), (2, (3, (1, (23, (2, (3, false)))))), (2, (2, (1, (23, (2, (2, false)))))), (2, (3, (1, (21, (2, (3, false)))))), (2, (3, (2, (42, (0, (3, false)))))), (2, (4, (0, (0, (0, (3, false)))))), (2, (3, (3, (72, (0, (2, false)))))), (2, (3, (2, (50, (0, (1, false)))))), (2, (6, (1, (21, (1, (2, false)))))), (2, (4, (1, (27, (1, (2, false)))))), (2, (8, (0, (0, (1, (3, false)))))), (2, (3, (1, (21, (1, (2, false)))))), (2, (3, (2, (42, (1, (1, false)))))), (2, (6, (1, (27, (1, (1, false)))))), (2, (6, (1, (27, (1, (2, false)))))), (2, (4, (1, (21, (1, (2, false)))))), (2, (5, (2, (44, (1, (1, false)))))), (2, (5, (2, (44, (1, (2, false)))))), (2, (4, (1, (21, (1, (2, false)))))), (3, (8, (1, (22, (1, (5, true)))))), (3, (3, (0, (0, (1, (2, true)))))), (4, (2, (1, (21, (1, (2, false)))))), (4, (3, (7, (157, (1, (1, false)))))), (4, (3, (3, (71, (1, (3, false)))))), (4, (3, (2, (49, (1, (2, false)))))), (4, (2, (2, (42, (1, (2, false)))))), (4, (3, (1, (21, (1, (3, false)))))), (4, (2, (1, (21, (1, (2, false)))))), (4, (2, (1, (22, (1, (2, false)))))), (4, (4, (2, (45, (1, (3, false)))))), (4, (4, (3, (64, (1, (3, false)))))), (4, (2, (2, (44, (1, (2, false)))))), (4, (3, (2, (50, (1, (2, false)))))), (4, (5, (1, (22, (1, (3, false)))))), (4, (6, (1, (22, (1, (4, false)))))), (4, (3, (4, (94, (1, (2, false)))))), (4, (4, (5, (115, (1, (3, false)))))), (4, (3, (5, (115, (1, (2, false)))))), (4, (6, (5, (115, (1, (4, false)))))), (4, (2, (5, (115, (1, (2, false)))))), (4, (3, (5, (115, (1, (2, false)))))), (4, (3, (2, (42, (1, (2, false)))))), (4, (3, (2, (52, (1, (2, false)))))), (4, (3, (2, (52, (1, (2, false)))))), (4, (3, (3, (68, (1, (2, false)))))), (4, (4, (5, (116, (1, (3, false)))))), (4, (3, (5, (120, (1, (2, false)))))), (4, (8, (6, (150, (1, (6, false)))))), (4, (3, (6, (142, (1, (2, false)))))), (4, (3, (6, (142, (1, (2, false)))))), (4, (5, (5, (115, (1, (3, false)))))), (4, (4, (3, (68, (1, (3, false)))))), (4, (3, (4, (94, (1, (2, false)))))), (4, (1, (4, (94, (1, (1, false)))))), (4, (12, (5, (122, (5, (5, false)))))), (4, (5, (1, (21, (1, (5, false)))))), (4, (5, (6, (141, (1, (4, false)))))), (4, (3, (5, (121, (1, (3, false)))))), (4, (4, (4, (98, (1, (2, false)))))), (4, (4, (4, (98, (1, (2, false)))))), (4, (3, (1, (22, (1, (2, false)))))), (4, (2, (4, (95, (1, (1, false)))))), (4, (2, (0, (0, (1, (1, false)))))), (4, (5, (5, (121, (1, (4, false)))))), (4, (1, (2, (69, (1, (1, false)))))), (4, (1, (2, (69, (1, (1, false)))))), (4, (2, (0, (0, (1, (2, false)))))), (4, (2, (1, (21, (1, (2, false)))))), (4, (3, (0, (0, (1, (3, true)))))), (4, (1, (0, (0, (2, (1, true)))))), (4, (1, (0, (0, (2, (1, true)))))), (4, (2, (0, (0, (2, (2, true)))))), (4, (5, (0, (0, (5, (2, true)))))), (4, (11, (0, (0, (5, (2, true)))))), (5, (3, (0, (0, (2, (3, true)))))), (5, (2, (0, (0, (1, (2, true)))))), (5, (3, (0, (0, (0, (2, true)))))), (5, (2, (0, (0, (1, (2, false)))))), (5, (2, (1, (21, (1, (2, false)))))), (5, (2, (1, (21, (5, (2, false)))))), (5, (1, (0, (0, (1, (1, true)))))), (5, (1, (0, (0, (1, (1, true)))))), (5, (2, (1, (22, (2, (2, false)))))), (5, (2, (1, (22, (2, (2, false)))))), (5, (1, (1, (22, (2, (1, true)))))), (5, (2, (1, (20, (2, (2, true)))))), (5, (3, (0, (0, (1, (1, true)))))), (5, (4, (2, (41, (1, (2, true)))))), (5, (2, (3, (64, (1, (2, true)))))), (5, (6, (3, (64, (1, (3, true)))))), (5, (3, (1, (20, (1, (2, true)))))), (5, (5, (2, (42, (1, (2, true)))))), (5, (5, (2, (41, (1, (2, true)))))), (5, (5, (4, (89, (0, (2, false)))))), (5, (4, (5, (113, (0, (3, false)))))), (5, (3, (1, (20, (1, (1, true)))))), (5, (2, (6, (136, (1, (2, false)))))), (5, (2, (1, (21, (1, (2, false)))))), (5, (1, (0, (0, (1, (1, false)))))), (5, (4, (1, (22, (2, (3, false)))))), (5, (1, (0, (0, (1, (1, true)))))), (5, (1, (1, (20, (2, (1, false)))))), (5, (3, (2, (45, (2, (1, false)))))), (5, (5, (1, (20, (2, (4, false)))))), (5, (5, (2, (43, (2, (4, false)))))), (5, (4, (6, (136, (2, (2, false)))))), (5, (6, (7, (159, (1, (1, false)))))), (5, (3, (4, (89, (1, (3, false)))))), (5, (2, (4, (85, (1, (2, false)))))), (5, (3, (2, (43, (1, (3, false)))))), (5, (2, (2, (42, (1, (2, false)))))), (5, (4, (2, (43, (1, (3, false)))))), (5, (5, (2, (43, (1, (3, false)))))), (5, (3, (2, (43, (1, (2, false)))))), (5, (2, (2, (43, (1, (2, false)))))), (5, (3, (3, (66, (1, (2, false)))))), (5, (2, (0, (0, (1, (2, true)))))), (5, (5, (2, (43, (1, (3, false)))))), (5, (7, (2, (43, (1, (4, false)))))), (5, (2, (6, (136, (1, (2, false)))))), (5, (2, (6, (136, (0, (2, false)))))), (5, (4, (7, (157, (1, (3, false)))))), (5, (3, (7, (157, (1, (2, false)))))), (5, (5, (7, (157, (1, (4, false)))))), (5, (5, (5, (113, (1, (3, false)))))), (5, (2, (6, (137, (1, (2, false)))))), (5, (2, (7, (158, (1, (2, false)))))), (5, (7, (7, (158, (1, (2, false)))))), (5, (3, (3, (66, (1, (2, false)))))), (5, (3, (4, (88, (1, (2, false)))))), (5, (7, (3, (66, (1, (2, false)))))), (5, (7, (3, (66, (1, (2, false)))))), (5, (7, (2, (42, (1, (2, false)))))), (5, (1, (0, (0, (1, (1, true)))))), (5, (7, (6, (137, (1, (2, false)))))), (5, (14, (7, (157, (1, (6, false)))))), (5, (4, (7, (157, (1, (4, false)))))), (5, (7, (8, (180, (1, (2, false)))))), (5, (7, (8, (180, (1, (2, false)))))), (5, (5, (7, (157, (1, (3, false)))))), (5, (4, (1, (20, (1, (2, false)))))), (5, (6, (2, (43, (1, (3, false)))))), (5, (4, (4, (85, (1, (2, true)))))), (5, (4, (5, (108, (0, (2, false)))))), (5, (4, (6, (131, (1, (2, false)))))), (5, (2, (6, (131, (1, (1, false)))))), (5, (9, (3, (66, (1, (3, false)))))), (5, (10, (0, (0, (5, (2, true)))))), (5, (5, (1, (29, (5, (3, true)))))), (5, (14, (6, (131, (5, (5, false)))))), (5, (8, (7, (157, (1, (6, false)))))), (5, (9, (8, (184, (1, (4, false)))))), (5, (7, (5, (113, (1, (3, false)))))), (5, (3, (1, (21, (1, (2, false)))))), (5, (3, (5, (113, (1, (1, false)))))), (5, (2, (0, (0, (1, (1, false)))))), (5, (2, (0, (0, (1, (2, false)))))), (5, (3, (1, (20, (1, (1, true)))))), (5, (7, (7, (157, (1, (4, false)))))), (5, (1, (1, (22, (1, (1, false)))))), (5, (1, (1, (22, (1, (1, false)))))), (5, (4, (3, (64, (1, (2, false)))))), (6, (1, (0, (0, (1, (1, true)))))), (7, (1, (1, (20, (1, (1, false)))))), (7, (2, (3, (64, (3, (2, false)))))), (7, (2, (3, (70, (1, (2, false)))))), (7, (3, (2, (48, (1, (3, false)))))), (7, (1, (0, (0, (4, (1, false)))))), (7, (1, (0, (0, (2, (1, false)))))), (7, (2, (1, (22, (0, (2, true)))))), (8, (2, (2, (43, (3, (2, true)))))), (8, (1, (0, (0, (2, (1, true)))))), (8, (4, (1, (25, (1, (4, true)))))), (8, (6, (0, (0, (1, (4, true)))))), (9, (3, (0, (0, (1, (3, true)))))), (10, (4, (9, (212, (2, (1, true))))))]
def mJ : MI := (0, (0, (0, (0, (0, (0, true))))))
def NM : Nat := 221
def k_X0_add : Nat := 0
def k_X0_formOf : Nat := 1
def k_X0_fits : Nat := 2
def k_X0_kindOf : Nat := 3
def k_X0_firstWrong : Nat := 4
def k_X0_letterAt : Nat := 5
def k_X0_digitAt : Nat := 6
def k_X0_numberAt : Nat := 7
def k_X0_tell : Nat := 8
def k_X0_tellDays : Nat := 9
def k_X1_hear : Nat := 10
def k_X1_behind : Nat := 11
def k_X1_downBehind : Nat := 12
def k_X1_downFromThen : Nat := 13
def k_X1_firstDownBehind : Nat := 14
def k_X1_flatBehind : Nat := 15
def k_X1_betterLean : Nat := 16
def k_X1_bestOfThree : Nat := 17
def k_X1_standingLeant : Nat := 18
def k_X1_toMend : Nat := 19
def k_X1_toBreak : Nat := 20
def k_X1_standingWith : Nat := 21
def k_X1_safestPlace : Nat := 22
def k_X1_felledFrom : Nat := 23
def k_X1_standingRobbed : Nat := 24
def k_X1_nothingToRobBehind : Nat := 25
def k_X1_waysUp : Nat := 26
def k_X1_isUpDraughted : Nat := 27
def k_X1_settled : Nat := 28
def k_X1_standingPushed : Nat := 29
def k_X1_weakensAs : Nat := 30
def k_X1_firstMisjudged : Nat := 31
def k_X1_termsByLot : Nat := 32
def k_X1_nextSeed : Nat := 33
def k_X1_drawBelow : Nat := 34
def k_X2_become : Nat := 35
def k_X2_isPurpose : Nat := 36
def k_X2_isThing : Nat := 37
def k_X2_isUp : Nat := 38
def k_X2_isFreeFor : Nat := 39
def k_X2_standing : Nat := 40
def k_X2_spareOf : Nat := 41
def k_X2_allStrength : Nat := 42
def k_X2_allLoad : Nat := 43
def k_X2_addPurpose : Nat := 44
def k_X2_addThing : Nat := 45
def k_X2_leanOn : Nat := 46
def k_X2_raise : Nat := 47
def k_X2_strengthen : Nat := 48
def k_X2_moveTo : Nat := 49
def k_X2_weigh : Nat := 50
def k_X2_passDays : Nat := 51
def k_X2_passDay : Nat := 52
def k_X2_heaviestOn : Nat := 53
def k_X2_topple : Nat := 54
def k_X2_felledBy : Nat := 55
def k_X2_leastPlaced : Nat := 56
def k_X2_leastPlacedWithoutSpare : Nat := 57
def k_X2_worstPush : Nat := 58
def k_X2_gapBehind : Nat := 59
def k_X2_besideFrom : Nat := 60
def k_X2_longestFrom : Nat := 61
def k_X2_mostWithin : Nat := 62
def k_X2_weightOf : Nat := 63
def k_X3_by : Nat := 64
def k_X3_ofHabit : Nat := 65
def k_X4_letter : Nat := 66
def k_X4_rack : Nat := 67
def k_X4_purpose : Nat := 68
def k_X4_lessNextDay : Nat := 69
def k_X4_spare : Nat := 70
def k_X4_thing : Nat := 71
def k_X4_at : Nat := 72
def k_X4_count : Nat := 73
def k_X4_leans : Nat := 74
def k_X4_moves : Nat := 75
def k_X4_setsUp : Nat := 76
def k_X4_pushes : Nat := 77
def k_X4_strong : Nat := 78
def k_X4_turn : Nat := 79
def k_X4_days : Nat := 80
def k_X4_upThen : Nat := 81
def k_X4_allThen : Nat := 82
def k_X4_purposeThen : Nat := 83
def k_X4_falls : Nat := 84
def k_X4_first : Nat := 85
def k_X4_pushed : Nat := 86
def k_X4_worst : Nat := 87
def k_X4_gap : Nat := 88
def k_X4_longest : Nat := 89
def k_X4_bestPlace : Nat := 90
def k_X4_lean : Nat := 91
def k_X4_bestLeans : Nat := 92
def k_X4_mended : Nat := 93
def k_X4_key : Nat := 94
def k_X4_takes : Nat := 95
def k_X4_balanced : Nat := 96
def k_X4_thief : Nat := 97
def k_X4_robbed : Nat := 98
def k_X4_draught : Nat := 99
def k_X4_offDraught : Nat := 100
def k_X4_two : Nat := 101
def k_X4_whatWas : Nat := 102
def k_X4_kindsThatFit : Nat := 103
def k_X4_figuresThatFit : Nat := 104
def k_X4_row : Nat := 105
def k_X4_judge : Nat := 106
def k_X4_clear : Nat := 107
def k_X4_lots : Nat := 108
def k_X4_image : Nat := 109
def k_X4_on : Nat := 110
def k_X4_refuse : Nat := 111
def k_X4_offUpThing : Nat := 112
def k_X4_outside : Nat := 113
def k_X4_isNeither : Nat := 114
def k_X4_isPlace : Nat := 115
def k_X4_has : Nat := 116
def k_X4_power : Nat := 117
def k_X4_commonDivisor : Nat := 118
def k_X5_isIn : Nat := 119
def k_X5_most : Nat := 120
def k_X5_copies : Nat := 121
def k_X5_no : Nat := 122
def k_X5_noFar : Nat := 123
def k_X5_noWide : Nat := 124
def k_X5_ofP : Nat := 125
def k_X5_ofT : Nat := 126
def k_X5_isPurpose : Nat := 127
def k_X5_isThing : Nat := 128
def k_X5_isPlace : Nat := 129
def k_X5_isUp : Nat := 130
def k_X5_bits : Nat := 131
def k_X5_loadOf : Nat := 132
def k_X5_spareOf : Nat := 133
def k_X5_lessBy : Nat := 134
def k_X5_whoAt : Nat := 135
def k_X5_fells : Nat := 136
def k_X5_heaviestOn : Nat := 137
def k_X5_day : Nat := 138
def k_X5_daysOn : Nat := 139
def k_X5_upSet : Nat := 140
def k_X5_upIn : Nat := 141
def k_X5_letter : Nat := 142
def k_X5_here : Nat := 143
def k_X5_readsNumber : Nat := 144
def k_X5_kindBy : Nat := 145
def k_X5_readsKind : Nat := 146
def k_X5_readsStatement : Nat := 147
def k_X5_addsPurpose : Nat := 148
def k_X5_addsThing : Nat := 149
def k_X5_isDone : Nat := 150
def k_X5_rack : Nat := 151
def k_X5_purpose : Nat := 152
def k_X5_spare : Nat := 153
def k_X5_thing : Nat := 154
def k_X5_at : Nat := 155
def k_X5_leans : Nat := 156
def k_X5_moves : Nat := 157
def k_X5_setsUp : Nat := 158
def k_X5_wrongUp : Nat := 159
def k_X5_pushes : Nat := 160
def k_X5_wrongBy : Nat := 161
def k_X5_strong : Nat := 162
def k_X5_turn : Nat := 163
def k_X5_days : Nat := 164
def k_X5_takesOn : Nat := 165
def k_X5_upThen : Nat := 166
def k_X5_allThen : Nat := 167
def k_X5_purposeThen : Nat := 168
def k_X5_downIn : Nat := 169
def k_X5_fallsOf : Nat := 170
def k_X5_falls : Nat := 171
def k_X5_first : Nat := 172
def k_X5_pushedBy : Nat := 173
def k_X5_pushed : Nat := 174
def k_X5_worst : Nat := 175
def k_X5_gap : Nat := 176
def k_X5_longest : Nat := 177
def k_X5_orNever : Nat := 178
def k_X5_lean : Nat := 179
def k_X5_bestLeans : Nat := 180
def k_X5_upWith : Nat := 181
def k_X5_mended : Nat := 182
def k_X5_key : Nat := 183
def k_X5_takes : Nat := 184
def k_X5_weightOf : Nat := 185
def k_X5_balanced : Nat := 186
def k_X5_leastToPush : Nat := 187
def k_X5_pushesLeast : Nat := 188
def k_X5_thief : Nat := 189
def k_X5_robbed : Nat := 190
def k_X5_bestPlace : Nat := 191
def k_X5_gcd : Nat := 192
def k_X5_partOf : Nat := 193
def k_X5_draught : Nat := 194
def k_X5_upPushed : Nat := 195
def k_X5_two : Nat := 196
def k_X5_whatWas : Nat := 197
def k_X5_row : Nat := 198
def k_X5_judge : Nat := 199
def k_X5_clear : Nat := 200
def k_X5_drawn : Nat := 201
def k_X5_strengthAll : Nat := 202
def k_X5_lots : Nat := 203
def k_X5_image : Nat := 204
def k_X5_on : Nat := 205
def k_X5_count : Nat := 206
def k_J6_bitCount_0f7a4 : Nat := 207
def k_J0_length_8abf5 : Nat := 208
def k_J0_charAt_5068e : Nat := 209
def k_J0_indexOf_0f7a4 : Nat := 210
def k_J0_indexOf_7cf53 : Nat := 211
def k_J0_coder_7d493 : Nat := 212
def k_J0_isLatin1_aae02 : Nat := 213
def k_J0_checkIndex_df160 : Nat := 214
def k_J1_charAt_3b067 : Nat := 215
def k_J1_canEncode_9a6ad : Nat := 216
def k_J1_indexOf_4cfef : Nat := 217
def k_J1_indexOfChar_4cfef : Nat := 218
def k_J3_checkIndex_8e157 : Nat := 219
def k_L_law : Nat := 220
def cNs : List String := [RX0, RX1, RX2, RX3, RX4, RX5, RJ6, RJ0, RJ1, RJ3, RL]
def cN (c : Nat) : String := cNs.getD c RX0
/-- Math.max, min: index, which, place of the word -/
def pmT : List (List (Nat × (Nat × Nat))) := [[], [], [(100, (0, 2137))], [], [(160, (1, 3009))], [], [], [], [(38, (1, 2012)), (92, (0, 2009))], [], []]
def pmP : List Nat := [1011, 2010, 2011, 2013, 2014]
def arP : List Nat := [2061, 2063, 2062, 1013]
/-- links of methods: class, then index, callee, place of the word -/
def lkT : List (List (Nat × (Nat × Nat))) := [
  [(33, (3, 1230)), (39, (210, 1234)), (44, (208, 1170)), (48, (1, 1180)), (52, (209, 1189)), (56, (2, 1227)), (60, (5, 2068)), (63, (6, 2072)), (66, (7, 2076)), (69, (44, 2080)), (75, (45, 2084)), (78, (46, 2115)), (82, (47, 2119)), (86, (48, 2120)), (89, (9, 2124)), (96, (52, 2127))],
  [(25, (35, 2057)), (35, (8, 2064)), (39, (5, 2163)), (43, (1, 2164)), (47, (208, 2165)), (53, (51, 3027)), (57, (13, 3047)), (60, (38, 3051)), (64, (52, 3052)), (73, (46, 3129)), (77, (18, 3138)), (81, (40, 3142)), (84, (11, 3152)), (88, (21, 3153)), (92, (48, 3157)), (95, (39, 3112)), (98, (23, 3113)), (102, (49, 3117)), (106, (55, 3118)), (109, (207, 3119)), (114, (57, 3190)), (117, (54, 3194)), (120, (27, 3216)), (131, (56, 3221)), (134, (29, 3237)), (137, (36, 4013)), (152, (33, 4042)), (155, (34, 4047)), (158, (42, 4051))],
  [(65, (207, 2157)), (71, (36, 2088)), (74, (39, 2092)), (78, (47, 2099)), (81, (37, 2103)), (84, (38, 2107)), (87, (50, 2111)), (91, (52, 3014)), (94, (64, 2131)), (106, (41, 2138)), (109, (53, 2142)), (112, (54, 2146)), (115, (55, 2150)), (121, (60, 3099)), (124, (63, 3178))],
  [(7, (65, 2134))],
  [(49, (111, 1153)), (56, (0, 1157)), (60, (4, 1165)), (64, (10, 2053)), (68, (36, 2171)), (84, (69, 2172)), (90, (64, 2176)), (97, (41, 2182)), (100, (37, 2187)), (112, (38, 2188)), (115, (115, 2193)), (130, (42, 2198)), (133, (43, 2202)), (136, (46, 2210)), (140, (39, 2215)), (143, (49, 2216)), (147, (47, 2224)), (150, (112, 2229)), (153, (54, 2233)), (156, (113, 2238)), (166, (51, 3010)), (169, (40, 3015)), (172, (11, 3023)), (176, (114, 3036)), (179, (12, 3043)), (182, (15, 3057)), (185, (14, 3061)), (188, (56, 3065)), (191, (55, 3073)), (194, (58, 3078)), (197, (207, 3082)), (202, (59, 3087)), (205, (61, 3095)), (208, (60, 3103)), (211, (22, 3108)), (214, (23, 3120)), (217, (16, 3125)), (220, (17, 3134)), (224, (18, 3143)), (227, (19, 3148)), (230, (20, 3162)), (233, (62, 3174)), (236, (24, 3186)), (239, (25, 3199)), (242, (100, 3207)), (247, (26, 3212)), (251, (117, 3225)), (255, (118, 3226)), (259, (28, 3233)), (262, (103, 4005)), (265, (104, 4014)), (268, (30, 4009)), (272, (31, 4026)), (276, (32, 4038)), (279, (35, 4056))],
  [(38, (122, 4114)), (44, (119, 4141)), (48, (126, 4168)), (51, (130, 4193)), (55, (125, 4155)), (58, (132, 4190)), (62, (135, 4165)), (65, (134, 4187)), (69, (120, 4196)), (73, (133, 4199)), (76, (137, 4202)), (79, (136, 4205)), (82, (138, 4183)), (86, (139, 4179)), (90, (140, 5024)), (94, (131, 5027)), (104, (143, 4126)), (108, (145, 4134)), (111, (146, 4130)), (115, (144, 4137)), (119, (129, 4162)), (123, (127, 4171)), (126, (148, 4151)), (129, (149, 4158)), (132, (128, 4175)), (135, (147, 4122)), (138, (121, 4144)), (142, (150, 4147)), (145, (123, 4216)), (148, (159, 5005)), (151, (161, 5013)), (154, (165, 5034)), (158, (141, 5042)), (161, (169, 5058)), (165, (170, 5054)), (168, (173, 5070)), (171, (178, 5090)), (174, (181, 5101)), (178, (185, 5117)), (181, (187, 5129)), (185, (188, 5125)), (189, (192, 5152)), (193, (124, 5144)), (197, (193, 5149)), (201, (195, 5159)), (214, (201, 5183)), (217, (202, 5190))],
  [],
  [(335, (212, 1174)), (492, (213, 1193)), (495, (215, 1197)), (505, (208, 2002)), (633, (211, 1238)), (637, (217, 2003)), (1059, (219, 1205))],
  [(9, (214, 1200)), (88, (216, 2006)), (95, (218, 2015))],
  [],
  [(13, (66, 1149)), (17, (142, 4110)), (18, (67, 1161)), (22, (151, 4118)), (23, (68, 2167)), (27, (152, 4208)), (28, (70, 2177)), (31, (153, 4212)), (32, (71, 2183)), (35, (154, 4221)), (36, (72, 2189)), (39, (155, 4225)), (40, (74, 2206)), (43, (156, 4229)), (44, (75, 2211)), (47, (157, 4233)), (48, (76, 2220)), (51, (158, 4237)), (52, (77, 2225)), (55, (160, 5001)), (56, (78, 2234)), (59, (162, 5009)), (60, (79, 3001)), (64, (163, 5016)), (65, (80, 3005)), (68, (164, 5020)), (69, (81, 3019)), (72, (166, 5030)), (73, (82, 3028)), (76, (167, 5038)), (77, (83, 3032)), (80, (168, 5046)), (81, (84, 3039)), (84, (171, 5050)), (85, (85, 3053)), (88, (172, 5062)), (89, (86, 3069)), (92, (174, 5066)), (93, (87, 3074)), (96, (175, 5074)), (97, (88, 3083)), (100, (176, 5078)), (101, (89, 3091)), (104, (177, 5082)), (105, (91, 3121)), (108, (179, 5086)), (109, (92, 3130)), (113, (180, 5093)), (114, (93, 3144)), (117, (182, 5097)), (118, (94, 3158)), (121, (183, 5105)), (122, (95, 3166)), (125, (184, 5109)), (126, (96, 3170)), (129, (186, 5113)), (130, (97, 3182)), (133, (189, 5121)), (134, (98, 3195)), (137, (190, 5132)), (138, (90, 3104)), (141, (191, 5136)), (142, (99, 3203)), (146, (194, 5140)), (147, (101, 3229)), (150, (196, 5155)), (151, (102, 4001)), (154, (197, 5163)), (155, (105, 4018)), (158, (198, 5167)), (159, (106, 4022)), (162, (199, 5171)), (163, (107, 4030)), (166, (200, 5175)), (167, (108, 4034)), (170, (203, 5179)), (171, (109, 4052)), (174, (204, 5193)), (175, (110, 4057)), (178, (205, 5197)), (179, (73, 2194)), (182, (206, 5201))]]
def lkN : List (List (Nat × Nat)) := [[], [(124, 117), (128, 116)], [(61, 115), (118, 116)], [], [], [], [], [], [], [], []]
def nsT : List (Nat × (Nat × Nat)) := [(1, (124, 117)), (1, (128, 116)), (2, (61, 115)), (2, (118, 116))]
/-- fields: index, class of the object (its place in vwC), place of the field, place of the word -/
def fkT : List (List (Nat × (Nat × (Nat × Nat)))) := [
  [(9, (0, (0, 1113))), (15, (0, (1, 1114))), (93, (2, (2, 1047)))],
  [(12, (1, (0, 1096))), (18, (1, (1, 1098))), (21, (1, (2, 1099))), (29, (0, (1, 1116))), (67, (2, (3, 1049))), (70, (2, (0, 1040))), (140, (2, (4, 1053))), (143, (2, (5, 1056))), (146, (2, (6, 1059))), (149, (2, (1, 1044)))],
  [(9, (2, (4, 1051))), (15, (2, (5, 1054))), (18, (2, (6, 1057))), (21, (2, (7, 1060))), (24, (2, (8, 1062))), (27, (2, (9, 1064))), (30, (2, (10, 1066))), (33, (2, (11, 1068))), (42, (2, (0, 1039))), (46, (2, (1, 1042))), (49, (2, (2, 1045))), (52, (2, (3, 1048)))],
  [],
  [(10, (3, (0, 1124))), (16, (1, (0, 1097))), (20, (3, (1, 1125))), (24, (3, (2, 1126))), (31, (3, (3, 1127))), (34, (3, (4, 1128))), (38, (3, (5, 1129))), (42, (3, (6, 1130))), (46, (3, (7, 1131))), (53, (0, (1, 1115))), (72, (2, (4, 1052))), (75, (2, (5, 1055))), (78, (2, (6, 1058))), (81, (2, (7, 1061))), (87, (2, (2, 1046))), (103, (2, (8, 1063))), (106, (2, (9, 1065))), (109, (2, (10, 1067))), (118, (2, (11, 1069))), (121, (2, (0, 1041))), (124, (2, (1, 1043))), (127, (2, (3, 1050)))],
  [(9, (4, (0, 4067))), (13, (4, (1, 4068))), (16, (4, (2, 4069))), (19, (4, (3, 4070))), (22, (4, (4, 4071))), (25, (4, (6, 4073))), (28, (4, (7, 4074))), (31, (4, (8, 4075))), (34, (4, (12, 4079))), (97, (4, (9, 4076))), (101, (4, (11, 4078))), (205, (4, (10, 4077))), (208, (4, (13, 4080))), (220, (4, (5, 4072)))],
  [],
  [],
  [],
  [],
  []]
def ckT : List (List (Nat × (Int × Nat))) := [[], [(161, (1664525, 4045)), (162, (1013904223, 4046)), (163, (2147483647, 4050))], [], [], [(96, (1000000000, 2181))], [(37, (1000000000, 4220)), (211, (1664525, 5187)), (212, (1013904223, 5188)), (213, (2147483647, 5189))], [(265, (1431655765, 2160)), (266, (858993459, 2161)), (267, (252645135, 2162))], [], [], [], []]
def clT : List (List (Nat × (Int × Nat))) := [[], [], [], [], [(245, (4000000000000000000, 3211))], [(42, (4000000000000000000, 5148))], [], [], [], [], []]
def strI : List Nat := [19, 21, 23, 25, 27, 29, 31, 37]
def strX : List String := ["pK999;", "t9999;", "l99;", "u9;", "s999;", "d99;", "", "phvowl"]
def strL : List Nat := [6, 6, 4, 3, 5, 4, 0, 6]
def strB : List (List Int) := [[112, 75, 57, 57, 57, 59], [116, 57, 57, 57, 57, 59], [108, 57, 57, 59], [117, 57, 59], [115, 57, 57, 57, 59], [100, 57, 57, 59], [], [112, 104, 118, 111, 119, 108]]
def strP : List Nat := [1183, 1184, 1185, 1186, 1187, 1188, 1169, 1233]
def wpT : List (Nat × (Nat × (Nat × Nat))) := [(1160, (1005, (1158, 1159))), (1182, (1005, (1181, 0))), (1229, (1005, (1228, 0))), (1232, (1005, (1231, 0))), (1168, (1005, (1166, 1167))), (2071, (1005, (2069, 2070))), (2075, (1005, (2073, 2074))), (2079, (1005, (2077, 2078))), (2067, (1005, (2065, 2066))), (2126, (1005, (2125, 0))), (2056, (1002, (2054, 2055))), (3026, (1002, (3024, 3025))), (3046, (1002, (3044, 3045))), (3050, (1002, (3049, 5))), (3064, (1002, (3062, 3063))), (3060, (1002, (3058, 3059))), (3128, (1002, (3126, 3127))), (3137, (1002, (3135, 3136))), (3141, (1002, (3139, 3140))), (3151, (1002, (3149, 3150))), (3165, (1002, (3163, 3164))), (3156, (1002, (3155, 6))), (3111, (1002, (3109, 3110))), (3116, (1002, (3114, 3115))), (3189, (1002, (3187, 3188))), (3202, (1002, (3200, 3201))), (3215, (1002, (3213, 3214))), (3219, (1002, (3218, 9))), (3236, (1002, (3234, 3235))), (4000, (1002, (3239, 10))), (4012, (1002, (4010, 4011))), (4029, (1002, (4027, 4028))), (4041, (1002, (4039, 4040))), (4044, (1002, (4043, 0))), (4049, (1002, (4048, 0))), (2060, (1003, (2058, 2059))), (2091, (1003, (2089, 2090))), (2106, (1003, (2104, 2105))), (2110, (1003, (2108, 2109))), (2095, (1003, (2093, 2094))), (3018, (1003, (3016, 3017))), (2141, (1003, (2139, 2140))), (2201, (1003, (2199, 2200))), (2205, (1003, (2203, 2204))), (2083, (1003, (2081, 2082))), (2087, (1003, (2085, 2086))), (2118, (1003, (2116, 2117))), (2102, (1003, (2100, 2101))), (2123, (1003, (2121, 2122))), (2219, (1003, (2217, 2218))), (2114, (1003, (2113, 1))), (3013, (1003, (3011, 3012))), (2130, (1003, (2128, 2129))), (2145, (1003, (2144, 2))), (2149, (1003, (2147, 2148))), (2153, (1003, (2151, 2152))), (3068, (1003, (3066, 3067))), (3193, (1003, (3191, 3192))), (3081, (1003, (3079, 3080))), (3090, (1003, (3088, 3089))), (3102, (1003, (3100, 3101))), (3098, (1003, (3096, 3097))), (3177, (1003, (3175, 3176))), (3181, (1003, (3180, 7))), (2133, (1014, (2132, 0))), (2136, (1014, (2135, 0))), (1152, (1001, (1150, 1151))), (1164, (1001, (1162, 1163))), (2170, (1001, (2168, 2169))), (2175, (1001, (2174, 3))), (2180, (1001, (2178, 2179))), (2186, (1001, (2184, 2185))), (2192, (1001, (2190, 2191))), (2197, (1001, (2195, 2196))), (2209, (1001, (2207, 2208))), (2214, (1001, (2212, 2213))), (2223, (1001, (2221, 2222))), (2228, (1001, (2226, 2227))), (2237, (1001, (2235, 2236))), (3004, (1001, (3002, 3003))), (3008, (1001, (3006, 3007))), (3022, (1001, (3020, 3021))), (3031, (1001, (3029, 3030))), (3035, (1001, (3033, 3034))), (3042, (1001, (3040, 3041))), (3056, (1001, (3054, 3055))), (3072, (1001, (3070, 3071))), (3077, (1001, (3075, 3076))), (3086, (1001, (3084, 3085))), (3094, (1001, (3092, 3093))), (3107, (1001, (3105, 3106))), (3124, (1001, (3122, 3123))), (3133, (1001, (3131, 3132))), (3147, (1001, (3145, 3146))), (3161, (1001, (3159, 3160))), (3169, (1001, (3167, 3168))), (3173, (1001, (3171, 3172))), (3185, (1001, (3183, 3184))), (3198, (1001, (3196, 3197))), (3206, (1001, (3204, 3205))), (3210, (1001, (3209, 8))), (3232, (1001, (3230, 3231))), (4004, (1001, (4002, 4003))), (4008, (1001, (4007, 11))), (4017, (1001, (4016, 12))), (4021, (1001, (4019, 4020))), (4025, (1001, (4023, 4024))), (4033, (1001, (4031, 4032))), (4037, (1001, (4035, 4036))), (4055, (1001, (4053, 4054))), (4060, (1001, (4058, 4059))), (1156, (1001, (1155, 0))), (2232, (1001, (2231, 4))), (3000, (1001, (2239, 0))), (3038, (1001, (3037, 0))), (2098, (1001, (2097, 0))), (2156, (1001, (2155, 0))), (3224, (1001, (3223, 0))), (3228, (1001, (3227, 0))), (4143, (1006, (4142, 0))), (4198, (1006, (4197, 0))), (4146, (1006, (4145, 0))), (4117, (1006, (4116, 13))), (4219, (1006, (4218, 25))), (5147, (1006, (5146, 35))), (4157, (1006, (4156, 0))), (4170, (1006, (4169, 0))), (4174, (1006, (4173, 21))), (4178, (1006, (4177, 22))), (4164, (1006, (4163, 0))), (4195, (1006, (4194, 0))), (5029, (1006, (5028, 0))), (4192, (1006, (4191, 0))), (4201, (1006, (4200, 0))), (4189, (1006, (4188, 0))), (4167, (1006, (4166, 0))), (4207, (1006, (4206, 0))), (4204, (1006, (4203, 0))), (4186, (1006, (4185, 24))), (4182, (1006, (4181, 23))), (5026, (1006, (5025, 0))), (5045, (1006, (5044, 28))), (4113, (1006, (4111, 4112))), (4129, (1006, (4128, 15))), (4140, (1006, (4139, 17))), (4136, (1006, (4135, 0))), (4133, (1006, (4132, 16))), (4125, (1006, (4124, 14))), (4154, (1006, (4153, 19))), (4161, (1006, (4160, 20))), (4150, (1006, (4149, 18))), (4121, (1006, (4119, 4120))), (4211, (1006, (4209, 4210))), (4215, (1006, (4213, 4214))), (4224, (1006, (4222, 4223))), (4228, (1006, (4226, 4227))), (4232, (1006, (4230, 4231))), (4236, (1006, (4234, 4235))), (5000, (1006, (4238, 4239))), (5008, (1006, (5007, 26))), (5004, (1006, (5002, 5003))), (5015, (1006, (5014, 0))), (5012, (1006, (5010, 5011))), (5019, (1006, (5017, 5018))), (5023, (1006, (5021, 5022))), (5037, (1006, (5036, 27))), (5033, (1006, (5031, 5032))), (5041, (1006, (5039, 5040))), (5049, (1006, (5047, 5048))), (5061, (1006, (5060, 30))), (5057, (1006, (5056, 29))), (5053, (1006, (5051, 5052))), (5065, (1006, (5063, 5064))), (5073, (1006, (5072, 31))), (5069, (1006, (5067, 5068))), (5077, (1006, (5075, 5076))), (5081, (1006, (5079, 5080))), (5085, (1006, (5083, 5084))), (5092, (1006, (5091, 0))), (5089, (1006, (5087, 5088))), (5096, (1006, (5094, 5095))), (5104, (1006, (5103, 32))), (5100, (1006, (5098, 5099))), (5108, (1006, (5106, 5107))), (5112, (1006, (5110, 5111))), (5120, (1006, (5119, 33))), (5116, (1006, (5114, 5115))), (5131, (1006, (5130, 0))), (5128, (1006, (5127, 34))), (5124, (1006, (5122, 5123))), (5135, (1006, (5133, 5134))), (5139, (1006, (5137, 5138))), (5154, (1006, (5153, 0))), (5151, (1006, (5150, 0))), (5143, (1006, (5141, 5142))), (5162, (1006, (5161, 36))), (5158, (1006, (5156, 5157))), (5166, (1006, (5164, 5165))), (5170, (1006, (5168, 5169))), (5174, (1006, (5172, 5173))), (5178, (1006, (5176, 5177))), (5186, (1006, (5185, 37))), (5192, (1006, (5191, 0))), (5182, (1006, (5180, 5181))), (5196, (1006, (5194, 5195))), (5200, (1006, (5198, 5199))), (5204, (1006, (5202, 5203))), (2159, (1015, (2158, 0))), (1173, (1007, (1171, 1172))), (1192, (1007, (1190, 1191))), (1237, (1007, (1235, 1236))), (2001, (1007, (1239, 2000))), (1177, (1007, (1175, 1176))), (1196, (1007, (1194, 1195))), (1202, (1007, (1201, 0))), (1199, (1008, (1198, 0))), (2008, (1008, (2007, 0))), (2005, (1008, (2004, 0))), (2017, (1008, (2016, 0))), (1207, (1009, (1206, 0))), (0, (0, (0, 0)))]
abbrev vwC : List vw_C := [(RX0, TX0, 2), (RX1, TX1, 3), (RX2, TX2, 12), (RX4, TX4, 8), (RX5, TX5, 14)]
/-! the abstract machine: ints are Int, references are (tag, instance), only ints are ever written -/
def mR (y : Nat) : MT := mT.getD y mD
def mN (y : Nat) : MethodName := (mR y).1
def mB (y : Nat) : ByteArray := (mR y).2.1
def mRt (y : Nat) : Option FieldType := (mR y).2.2.1
def mTb (y : Nat) : TB := (mR y).2.2.2
def mJJ (y : Nat) : MI := mI.getD y mJ
def mC (y : Nat) : Nat := (mJJ y).1
def mL (y : Nat) : Nat := (mJJ y).2.1
def mFr (y : Nat) : Nat := (mJJ y).2.2.1
def mLo (y : Nat) : Nat := (mJJ y).2.2.2.1
def mK (y : Nat) : Nat := (mJJ y).2.2.2.2.1
def mNA (y : Nat) : Nat := (mJJ y).2.2.2.2.2.1
def mSt (y : Nat) : Bool := (mJJ y).2.2.2.2.2.2
abbrev AV : Type := Int ⊕ ((Nat × Nat) ⊕ Int)
abbrev St : Type := Nat → Nat → Nat → Int
def uns : AV := .inr (.inl (99, 0))
def isU (v : AV) : Bool := match v with
  | .inr (.inl (t, _)) => t == 99
  | _ => false
def isLg (v : AV) : Bool := match v with
  | .inr (.inr _) => true
  | _ => false
def wr (x : Int) : Int := x.bmod 4294967296
def wl (x : Int) : Int := x.bmod 18446744073709551616
def up (σ : St) (t r k : Nat) (v : Int) : St := fun t' r' k' => if t' = t ∧ r' = r ∧ k' = k then v else σ t' r' k'
def cpy (σ : St) (t0 r0 sp t r dp n : Nat) : St := fun t' r' k' => if t' = t ∧ r' = r ∧ dp ≤ k' ∧ k' < dp + n then σ t0 r0 (sp + (k' - dp)) else σ t' r' k'
/-- lengths of the arrays, by tag; 0: not an int array that may be written -/
def alT : List Nat := [0, 0, 4, 0, 96, 16, 7, 0, 5, 5, 5, 5, 10, 10, 10, 20, 0, 58, 5, 96, 16, 7, 3]
def alen (t : Nat) : Nat := alT.getD t 0
/-- class of the objects, by tag (their place in vwC); 9: none -/
def ocT : List Nat := [3, 1, 9, 0, 9, 9, 9, 2, 9, 9, 9, 9, 9, 9, 9, 9, 4]
def ocl (t : Nat) : Nat := ocT.getD t 9
/-- number of the class, as methods have it, of the objects by tag -/
def rcT : List Nat := [4, 1, 99, 0, 99, 99, 99, 2, 99, 99, 99, 99, 99, 99, 99, 99, 5, 99, 99, 99, 99, 99, 99, 99, 99, 99, 99, 99, 99, 99, 7]
def rcl (t : Nat) : Nat := rcT.getD t 99
abbrev FD : Type := Nat ⊕ (Nat × Option Nat)
/-- fields of the objects: inl 0 an int, inl 1 a boolean, inr (tag, instance; none: the object's own) -/
def fdT : List (List FD) := [[.inr (1, some 0), .inr (7, some 0), .inr (3, some 0), .inr (7, some 2), .inl 1, .inr (5, some 0), .inl 0, .inr (6, some 0)],
  [.inr (7, some 0), .inr (7, some 1), .inr (2, some 0)], [], [.inr (4, some 0), .inl 0], [], [], [],
  [.inl 0, .inl 0, .inl 0, .inl 0, .inr (8, none), .inr (9, none), .inr (10, none), .inr (11, none), .inr (12, none), .inr (13, none), .inr (14, none), .inr (15, none)],
  [], [], [], [], [], [], [], [],
  [.inr (17, some 0), .inr (17, some 1), .inr (17, some 2), .inr (17, some 3), .inr (18, some 0), .inl 1, .inr (19, some 0), .inr (20, some 0), .inr (21, some 0), .inl 0, .inl 0, .inl 0, .inr (22, some 0), .inl 0]]
def fds (t : Nat) : List FD := fdT.getD t []
/-- the world's cells -/
def wlst : List (Nat × Nat) := [(0, 0), (1, 0), (2, 0), (3, 0), (4, 0), (5, 0), (6, 0),
  (7, 0), (8, 0), (9, 0), (10, 0), (11, 0), (12, 0), (13, 0), (14, 0), (15, 0),
  (7, 1), (8, 1), (9, 1), (10, 1), (11, 1), (12, 1), (13, 1), (14, 1), (15, 1),
  (7, 2), (8, 2), (9, 2), (10, 2), (11, 2), (12, 2), (13, 2), (14, 2), (15, 2),
  (16, 0), (17, 0), (17, 1), (17, 2), (17, 3), (18, 0), (19, 0), (20, 0), (21, 0), (22, 0)]
def wpos (t r : Nat) : Nat := if t < 7 then t else if t < 16 then 7 + 9 * r + (t - 7) else if t < 17 then 34 else if t < 18 then 35 + r else t + 21
def vld (t r : Nat) : Prop := wlst[wpos t r]? = some (t, r)
/-- string literals: tag 30 the text, tag 31 its bytes, tag 32 the script (its length: instance 1, place 0), tag 33 a JDK static -/
def slen (r : Nat) : Nat := strL.getD r 0
def sbyt (r k : Nat) : Int := (strB.getD r []).getD k 0
def tgt (pc : Nat) (off : Int) : Option Nat := if 0 ≤ (pc : Int) + off then some ((pc : Int) + off).toNat else none
def cmpI (c : ClassFile.Cond) (x y : Int) : Bool := match c with
  | .eq => decide (x = y)
  | .ne => !decide (x = y)
  | .lt => decide (x < y)
  | .ge => !decide (x < y)
  | .gt => decide (y < x)
  | .le => !decide (y < x)
def brn (b : Bool) (pc : Nat) (off : Int) : Option Nat := match tgt pc off with
  | none => none
  | some t => some (if b = true then t else pc + 3)
def stl (ls : List AV) (i : Nat) (v : AV) : List AV := match i with
  | 0 => ls.set 0 v
  | j + 1 => (if isLg (ls.getD j uns) = true then ls.set j uns else ls).set (j + 1) v
abbrev AC : Type := Nat × (List AV × (List AV × St))
def ldv (k : Nat) (ls : List AV) (i n pc : Nat) (st : List AV) (σ : St) : Option AC := match ls[i]? with
  | some (.inl x) => if k == 0 then some (pc + n, (ls, (.inl x :: st, σ))) else none
  | some (.inr (.inl (t, r))) => if k == 1 && !(t == 99) && !(t == 33) then some (pc + n, (ls, (.inr (.inl (t, r)) :: st, σ))) else none
  | some (.inr (.inr w)) => if k == 2 then some (pc + n, (ls, (.inr (.inr w) :: st, σ))) else none
  | none => none
def stv (k : Nat) (ls : List AV) (i n pc : Nat) (st : List AV) (σ : St) : Option AC := match st with
  | .inl x :: st' => if k == 0 && Nat.blt i ls.length then some (pc + n, (stl ls i (.inl x), (st', σ))) else none
  | .inr (.inl (t, r)) :: st' => if k == 1 && !(t == 99) && !(t == 33) && Nat.blt i ls.length then some (pc + n, (stl ls i (.inr (.inl (t, r))), (st', σ))) else none
  | .inr (.inr w) :: st' => if k == 2 && Nat.blt (i + 1) ls.length then some (pc + n, ((stl ls i (.inr (.inr w))).set (i + 1) uns, (st', σ))) else none
  | [] => none
def binI (i : Instr) (x y : Int) : Option Int := match i with
  | .iadd => some (wr (x + y))
  | .isub => some (wr (x - y))
  | .imul => some (wr (x * y))
  | .idiv => if y = 0 then none else some (wr (x.tdiv y))
  | .irem => if y = 0 then none else some (x.tmod y)
  | .iand => some (Int32.ofInt x &&& Int32.ofInt y).toInt
  | .ior => some (Int32.ofInt x ||| Int32.ofInt y).toInt
  | .ixor => some (Int32.ofInt x ^^^ Int32.ofInt y).toInt
  | .ishl => some (Int32.ofInt x <<< (Int32.ofInt y &&& 31)).toInt
  | .ishr => some (Int32.ofInt x >>> (Int32.ofInt y &&& 31)).toInt
  | .iushr => some ((Int32.ofInt x).toUInt32 >>> ((Int32.ofInt y).toUInt32 &&& Int32.toUInt32 31)).toInt32.toInt
  | _ => none
def binL (i : Instr) (x y : Int) : Option Int := match i with
  | .ladd => some (wl (x + y))
  | .lsub => some (wl (x - y))
  | .lmul => some (wl (x * y))
  | .ldiv => if y = 0 then none else some (wl (x.tdiv y))
  | .lrem => if y = 0 then none else some (x.tmod y)
  | _ => none
def unI (i : Instr) (x : Int) : Option Int := match i with
  | .ineg => some (wr (-x))
  | .i2b => some (Int32.ofInt x).toInt8.toInt32.toInt
  | .i2c => some ((Int32.ofInt x).toUInt32 % 65536).toInt32.toInt
  | _ => none
def aBin (i : Instr) (pc : Nat) (ls st : List AV) (σ : St) : Option AC := match st with
  | .inl y :: .inl x :: st' => match binI i x y with
    | some z => some (pc + 1, (ls, (.inl z :: st', σ)))
    | none => none
  | .inl x :: st' => match unI i x with
    | some z => some (pc + 1, (ls, (.inl z :: st', σ)))
    | none => none
  | .inr (.inr y) :: .inr (.inr x) :: st' => match binL i x y with
    | some z => some (pc + 1, (ls, (.inr (.inr z) :: st', σ)))
    | none => none
  | _ => none
def aUn (i : Instr) (pc : Nat) (ls st : List AV) (σ : St) : Option AC := match st with
  | .inl x :: st' => match unI i x with
    | some z => some (pc + 1, (ls, (.inl z :: st', σ)))
    | none => none
  | _ => none
def aGet (m idx pc : Nat) (ls st : List AV) (σ : St) : Option AC := match st with
  | .inr (.inl (t, r)) :: st' =>
    if t == 30 then (if mC m == 7 then (if idx == 9 then some (pc + 3, (ls, (.inr (.inl (31, r)) :: st', σ))) else if idx == 15 then some (pc + 3, (ls, (.inl 0 :: st', σ))) else none) else none)
    else match (fkT.getD (mC m) []).lookup idx with
      | none => none
      | some (o, (k, _)) => if ocl t == o then (match (fds t)[k]? with
        | some (.inl _) => some (pc + 3, (ls, (.inl (σ t r k) :: st', σ)))
        | some (.inr (t', rr)) => some (pc + 3, (ls, (.inr (.inl (t', rr.getD r)) :: st', σ)))
        | none => none) else none
  | _ => none
def aPut (m idx pc : Nat) (ls st : List AV) (σ : St) : Option AC := match st with
  | .inl v :: .inr (.inl (t, r)) :: st' => match (fkT.getD (mC m) []).lookup idx with
      | none => none
      | some (o, (k, _)) => if ocl t == o then (match (fds t)[k]? with
        | some (.inl ty) => if ty == 0 || decide (v = 0) || decide (v = 1) then some (pc + 3, (ls, (st', up σ t r k v))) else none
        | _ => none) else none
  | _ => none
def aIld (pc : Nat) (ls st : List AV) (σ : St) : Option AC := match st with
  | .inl i :: .inr (.inl (t, r)) :: st' => if 0 ≤ i ∧ i < (if t == 32 then σ 32 1 0 else (alen t : Int)) then some (pc + 1, (ls, (.inl (σ t (if t == 32 then 0 else r) i.toNat) :: st', σ))) else none
  | _ => none
def aIst (pc : Nat) (ls st : List AV) (σ : St) : Option AC := match st with
  | .inl v :: .inl i :: .inr (.inl (t, r)) :: st' => if 0 ≤ i ∧ i < (alen t : Int) then some (pc + 1, (ls, (st', up σ t r i.toNat v))) else none
  | _ => none
def aBld (pc : Nat) (ls st : List AV) (σ : St) : Option AC := match st with
  | .inl i :: .inr (.inl (t, r)) :: st' => if t == 31 then (if 0 ≤ i ∧ i < (slen r : Int) then some (pc + 1, (ls, (.inl (sbyt r i.toNat) :: st', σ))) else none) else none
  | _ => none
def aLen (pc : Nat) (ls st : List AV) (σ : St) : Option AC := match st with
  | .inr (.inl (t, r)) :: st' => if t == 31 then some (pc + 1, (ls, (.inl (slen r : Int) :: st', σ)))
    else if t == 32 then some (pc + 1, (ls, (.inl (σ 32 1 0) :: st', σ)))
    else if alen t == 0 then none else some (pc + 1, (ls, (.inl (alen t : Int) :: st', σ)))
  | _ => none
def aCpy (pc : Nat) (ls st : List AV) (σ : St) : Option AC := match st with
  | .inl n :: .inl dp :: .inr (.inl (t, r)) :: .inl sp :: .inr (.inl (t0, r0)) :: st' =>
    if 0 ≤ n ∧ 0 ≤ dp ∧ 0 ≤ sp ∧ sp + n ≤ (alen t0 : Int) ∧ dp + n ≤ (alen t : Int) ∧ alen t0 ≠ 0 ∧ alen t ≠ 0 ∧ st'.length = 0 then some (pc + 3, (ls, (st', cpy σ t0 r0 sp.toNat t r dp.toNat n.toNat))) else none
  | _ => none
def idxOf {α : Type} (p : α → Bool) : List α → Nat → Option Nat
  | [], _ => none
  | a :: l, k => if p a = true then some k else idxOf p l (k + 1)
def aLdc (m idx n pc : Nat) (ls st : List AV) (σ : St) : Option AC := match (ckT.getD (mC m) []).lookup idx with
  | some (v, _) => some (pc + n, (ls, (.inl v :: st, σ)))
  | none => if mC m == 0 && n == 2 then (match idxOf (fun j => j == idx) strI 0 with
    | some k => some (pc + 2, (ls, (.inr (.inl (30, k)) :: st, σ)))
    | none => none) else none
def aLd2 (m idx pc : Nat) (ls st : List AV) (σ : St) : Option AC := match (clT.getD (mC m) []).lookup idx with
  | some (v, _) => some (pc + 3, (ls, (.inr (.inr v) :: st, σ)))
  | none => none
def aGs (m idx pc : Nat) (ls st : List AV) (σ : St) : Option AC :=
  if mC m == 7 then (if idx == 38 then some (pc + 3, (ls, (.inl 1 :: st, σ))) else if idx == 1053 then some (pc + 3, (ls, (.inr (.inl (33, 0)) :: st, σ))) else none) else none
def aPrm (m idx pc : Nat) (ls st : List AV) (σ : St) : Option AC := match (pmT.getD (mC m) []).lookup idx with
  | none => none
  | some (w, _) => match st with
    | .inl y :: .inl x :: st' => if Nat.ble 1 (mFr m) && Nat.ble 21 (mLo m) && Nat.ble st'.length 4 then some (pc + 3, (ls, (.inl (if w == 0 then (if x < y then y else x) else (if y < x then y else x)) :: st', σ))) else none
    | _ => none
def jmp (o : Option Nat) (ls st : List AV) (σ : St) : Option AC := match o with
  | some t => some (t, (ls, (st, σ)))
  | none => none
/-- one step that is neither a call nor a return -/
def aStep (m : Nat) (i : Instr) (n pc : Nat) (ls st : List AV) (σ : St) : Option AC := match i with
  | .iconst v => if -10 ≤ v ∧ v ≤ 10 then some (pc + 1, (ls, (.inl v :: st, σ))) else none
  | .bipush v => if -128 ≤ v ∧ v ≤ 127 then some (pc + 2, (ls, (.inl v :: st, σ))) else none
  | .sipush v => if -32768 ≤ v ∧ v ≤ 32767 then some (pc + 3, (ls, (.inl v :: st, σ))) else none
  | .lconst v => some (pc + 1, (ls, (.inr (.inr ((v : Nat) : Int)) :: st, σ)))
  | .iload i => ldv 0 ls i 2 pc st σ
  | .iload_n i => ldv 0 ls i 1 pc st σ
  | .aload i => ldv 1 ls i 2 pc st σ
  | .aload_n i => ldv 1 ls i 1 pc st σ
  | .lload i => ldv 2 ls i 2 pc st σ
  | .lload_n i => ldv 2 ls i 1 pc st σ
  | .istore i => stv 0 ls i 2 pc st σ
  | .istore_n i => stv 0 ls i 1 pc st σ
  | .astore i => stv 1 ls i 2 pc st σ
  | .astore_n i => stv 1 ls i 1 pc st σ
  | .lstore i => stv 2 ls i 2 pc st σ
  | .lstore_n i => stv 2 ls i 1 pc st σ
  | .iinc i v => match ls[i]? with
    | some (.inl x) => some (pc + 3, (stl ls i (.inl (wr (x + v))), (st, σ)))
    | _ => none
  | .dup => match st with
    | v :: st' => if isLg v = true then none else some (pc + 1, (ls, (v :: v :: st', σ)))
    | _ => none
  | .dup2 => match st with
    | a :: b :: st' => if (isLg a || isLg b) = true then none else some (pc + 1, (ls, (a :: b :: a :: b :: st', σ)))
    | _ => none
  | .pop => match st with
    | v :: st' => if isLg v = true then none else some (pc + 1, (ls, (st', σ)))
    | _ => none
  | .iadd | .isub | .imul | .idiv | .irem | .iand | .ior | .ixor | .ishl | .ishr | .iushr | .ladd | .lsub | .lmul | .ldiv | .lrem => match st with
    | .inl y :: .inl x :: st' => match binI i x y with
      | some z => some (pc + 1, (ls, (.inl z :: st', σ)))
      | none => none
    | .inr (.inr y) :: .inr (.inr x) :: st' => match binL i x y with
      | some z => some (pc + 1, (ls, (.inr (.inr z) :: st', σ)))
      | none => none
    | _ => none
  | .ineg | .i2b | .i2c => aUn i pc ls st σ
  | .i2l => match st with
    | .inl x :: st' => some (pc + 1, (ls, (.inr (.inr x) :: st', σ)))
    | _ => none
  | .lcmp => match st with
    | .inr (.inr y) :: .inr (.inr x) :: st' => some (pc + 1, (ls, (.inl (if y < x then 1 else if x = y then 0 else -1) :: st', σ)))
    | _ => none
  | .goto off => jmp (tgt pc off) ls st σ
  | .ifCond c off => match st with
    | .inl x :: st' => jmp (brn (cmpI c x 0) pc off) ls st' σ
    | _ => none
  | .if_icmp c off => match st with
    | .inl y :: .inl x :: st' => jmp (brn (cmpI c x y) pc off) ls st' σ
    | _ => none
  | .tableswitch d lo hi offs => match st with
    | .inl x :: st' => if x < lo ∨ hi < x then jmp (tgt pc d) ls st' σ else match offs[(x - lo).toNat]? with
      | some off => jmp (tgt pc off) ls st' σ
      | none => none
    | _ => none
  | .lookupswitch d ps => match st with
    | .inl x :: st' => if (ps.toList.zip (ps.toList.drop 1)).all (fun (a, next) => a.1 < next.1) = true then jmp (tgt pc (Op.lookupswitch.offset ps.toList d x)) ls st' σ else none
    | _ => none
  | .getfield idx => aGet m idx pc ls st σ
  | .putfield idx => aPut m idx pc ls st σ
  | .iaload => aIld pc ls st σ
  | .iastore => aIst pc ls st σ
  | .baload => aBld pc ls st σ
  | .arraylength => aLen pc ls st σ
  | .getstatic idx => aGs m idx pc ls st σ
  | .ldc idx => aLdc m idx 2 pc ls st σ
  | .ldc_w idx => aLdc m idx 3 pc ls st σ
  | .ldc2_w idx => aLd2 m idx pc ls st σ
  | .invokestatic idx => if mC m == 2 && idx == 55 && Nat.ble 1 (mFr m) && Nat.ble 48 (mLo m) then aCpy pc ls st σ else aPrm m idx pc ls st σ
  | _ => none
/-- a return: the value that the method answers -/
def rkOK (k : Nat) (v : Int) : Bool := match k with
  | 1 => true
  | 2 => decide (v = 0) || decide (v = 1)
  | 3 => decide (0 ≤ v ∧ v < 65536)
  | 4 => decide (-128 ≤ v ∧ v < 128)
  | _ => false
def aRet (m : Nat) (i : Instr) (st : List AV) : Option (Option AV) := match i, st with
  | .return_, [] => if mK m == 0 then some none else none
  | .ireturn, [.inl v] => if rkOK (mK m) v = true then some (some (.inl v)) else none
  | .lreturn, [.inr (.inr v)] => if mK m == 5 then some (some (.inr (.inr v))) else none
  | .areturn, [.inr (.inl (t, r))] => if mK m == 6 && !(t == 33) then some (some (.inr (.inl (t, r)))) else none
  | _, _ => none
def catS : List AV → Nat
  | [] => 0
  | v :: l => (if isLg v = true then 2 else 1) + catS l
/-- a call: the method, what it is given, what stays on the stack -/
def aGo (m y : Nat) (st : List AV) : Option (Nat × (List AV × List AV)) :=
  if Nat.ble (mFr y + 1) (mFr m) && Nat.ble (19 + mL y + mLo y) (mLo m) && Nat.ble (mNA y) st.length && Nat.ble (catS (st.drop (mNA y))) 8 && Nat.ble (catS (st.take (mNA y)).reverse) (mL y) then some (y, ((st.take (mNA y)).reverse, st.drop (mNA y))) else none
def recv (y : Nat) (as : List AV) : Bool := match as with
  | .inr (.inl (t, _)) :: _ => rcl t == mC y
  | _ => false
def aCall (m : Nat) (i : Instr) (st : List AV) : Option (Nat × (List AV × List AV)) := match i with
  | .invokestatic idx => match (lkT.getD (mC m) []).lookup idx with
    | some (y, _) => if mSt y = true then aGo m y st else none
    | none => match (lkN.getD (mC m) []).lookup idx with
      | some y => if mSt y = true then aGo m y st else none
      | none => none
  | .invokevirtual idx => match (lkT.getD (mC m) []).lookup idx with
    | some (y, _) => match aGo m y st with
      | some (y', (as, rest)) => if mSt y = false && recv y as then some (y', (as, rest)) else none
      | none => none
    | none => none
  | _ => none
def spr : List AV → List AV
  | [] => []
  | v :: l => if isLg v = true then v :: uns :: spr l else v :: spr l
def ent (y : Nat) (as : List AV) : List AV := spr as ++ List.replicate (mL y - (spr as).length) uns
def fetch (m pc : Nat) : Option (Instr × Nat) := (mTb m).lookup pc
def ex : Nat → Nat → Nat → List AV → List AV → St → Option (Option AV × St)
  | 0, _, _, _, _, _ => none
  | n + 1, m, pc, ls, st, σ => match fetch m pc with
    | none => none
    | some (i, len) => match aRet m i st with
      | some rv => some (rv, σ)
      | none => match aCall m i st with
        | some (y, (as, rest)) => match ex n y 0 (ent y as) [] σ with
          | some (rv, σ') => ex n m (pc + 3) ls (rv.toList ++ rest) σ'
          | none => none
        | none => match aStep m i len pc ls st σ with
          | some (pc', (ls', (st', σ'))) => ex n m pc' ls' st' σ'
          | none => none
end
section
def tbC (c : Nat) : List Cond := match c with
  | 0 => k2_sels lw_privs
  | 1 => tables_1_1
  | 2 => tables_1_2
  | 3 => tables_1_3
  | 4 => tables_1_4
  | _ => tables_1_5
theorem tbC_in0 (c : Nat) {w : Cond} (h : w ∈ tbC c) : w ∈ lw_tbl := by
  have e : lw_tbl = k2_sels lw_privs ++ (tables_1_1 ++ (tables_1_2 ++ (tables_1_3 ++ (tables_1_4 ++ tables_1_5)))) := rfl
  rw [e]
  unfold tbC at h
  split at h <;> simp only [List.mem_append] <;> simp only [h, true_or, or_true]
def wAt (p : Nat) (w : Cond) : Bool := decide ((tbC (p / 1000))[p % 1000]? = some w) && goodWord w
def wRaw (p : Nat) (w : Cond) : Bool := decide ((tbC (p / 1000))[p % 1000]? = some w)
theorem wRaw_in {p : Nat} {w : Cond} (h : wRaw p w = true) : w ∈ lw_tbl := tbC_in0 (p / 1000) (List.mem_of_getElem? (of_decide_eq_true h))
/-- the tables' words that may be handed on -/
def lwg : List Cond := lw_tbl.filter goodWord
theorem lwg_in {w : Cond} (h : w ∈ lwg) : w ∈ lw_tbl := (List.mem_filter.mp h).1
theorem lwg_all : lwg.all goodWord = true := List.all_eq_true.mpr fun _ h => (List.mem_filter.mp h).2
theorem wAt_in {p : Nat} {w : Cond} (h : wAt p w = true) : w ∈ lwg := by
  unfold wAt at h
  rw [Bool.and_eq_true] at h
  exact List.mem_filter.mpr ⟨tbC_in0 (p / 1000) (List.mem_of_getElem? (of_decide_eq_true h.1)), h.2⟩
def wCode (y : Nat) : Bool := wAt (wpT.getD y (0, (0, (0, 0)))).1 (.code (mN y) (mB y) (mL y) (mRt y))
def wFace (y : Nat) : Bool := wAt (wpT.getD y (0, (0, (0, 0)))).2.1 (.initialized (mN y).cls) &&
    (if mSt y = true then wAt (wpT.getD y (0, (0, (0, 0)))).2.2.1 (.static (mN y)) else wAt (wpT.getD y (0, (0, (0, 0)))).2.2.1 (.instanceMethod (mN y)) && wAt (wpT.getD y (0, (0, (0, 0)))).2.2.2 (.selects (mN y).cls (mN y) (mN y)))
set_option maxRecDepth 100000 in
theorem wc_0 : [0, 1, 2, 3, 4, 5, 6, 7, 8, 9].all (fun y => wCode y) = true := by decide +kernel
set_option maxRecDepth 100000 in
theorem wf_0 : [0, 1, 2, 3, 4, 5, 6, 7, 8, 9].all (fun y => wFace y) = true := by decide +kernel
set_option maxRecDepth 100000 in
theorem wc_1 : [10, 11, 12, 13, 14, 15, 16, 17, 18, 19].all (fun y => wCode y) = true := by decide +kernel
set_option maxRecDepth 100000 in
theorem wf_1 : [10, 11, 12, 13, 14, 15, 16, 17, 18, 19].all (fun y => wFace y) = true := by decide +kernel
set_option maxRecDepth 100000 in
theorem wc_2 : [20, 21, 22, 23, 24, 25, 26, 27, 28, 29].all (fun y => wCode y) = true := by decide +kernel
set_option maxRecDepth 100000 in
theorem wf_2 : [20, 21, 22, 23, 24, 25, 26, 27, 28, 29].all (fun y => wFace y) = true := by decide +kernel
set_option maxRecDepth 100000 in
theorem wc_3 : [30, 31, 32, 33, 34, 35, 36, 37, 38, 39].all (fun y => wCode y) = true := by decide +kernel
set_option maxRecDepth 100000 in
theorem wf_3 : [30, 31, 32, 33, 34, 35, 36, 37, 38, 39].all (fun y => wFace y) = true := by decide +kernel
set_option maxRecDepth 100000 in
theorem wc_4 : [40, 41, 42, 43, 44, 45, 46, 47, 48, 49].all (fun y => wCode y) = true := by decide +kernel
set_option maxRecDepth 100000 in
theorem wf_4 : [40, 41, 42, 43, 44, 45, 46, 47, 48, 49].all (fun y => wFace y) = true := by decide +kernel
set_option maxRecDepth 100000 in
theorem wc_5 : [50, 51, 52, 53, 54, 55, 56, 57, 58, 59].all (fun y => wCode y) = true := by decide +kernel
set_option maxRecDepth 100000 in
theorem wf_5 : [50, 51, 52, 53, 54, 55, 56, 57, 58, 59].all (fun y => wFace y) = true := by decide +kernel
set_option maxRecDepth 100000 in
theorem wc_6 : [60, 61, 62, 63, 64, 65, 66, 67, 68, 69].all (fun y => wCode y) = true := by decide +kernel
set_option maxRecDepth 100000 in
theorem wf_6 : [60, 61, 62, 63, 64, 65, 66, 67, 68, 69].all (fun y => wFace y) = true := by decide +kernel
set_option maxRecDepth 100000 in
theorem wc_7 : [70, 71, 72, 73, 74, 75, 76, 77, 78, 79].all (fun y => wCode y) = true := by decide +kernel
set_option maxRecDepth 100000 in
theorem wf_7 : [70, 71, 72, 73, 74, 75, 76, 77, 78, 79].all (fun y => wFace y) = true := by decide +kernel
set_option maxRecDepth 100000 in
theorem wc_8 : [80, 81, 82, 83, 84, 85, 86, 87, 88, 89].all (fun y => wCode y) = true := by decide +kernel
set_option maxRecDepth 100000 in
theorem wf_8 : [80, 81, 82, 83, 84, 85, 86, 87, 88, 89].all (fun y => wFace y) = true := by decide +kernel
set_option maxRecDepth 100000 in
theorem wc_9 : [90, 91, 92, 93, 94, 95, 96, 97, 98, 99].all (fun y => wCode y) = true := by decide +kernel
set_option maxRecDepth 100000 in
theorem wf_9 : [90, 91, 92, 93, 94, 95, 96, 97, 98, 99].all (fun y => wFace y) = true := by decide +kernel
set_option maxRecDepth 100000 in
theorem wc_10 : [100, 101, 102, 103, 104, 105, 106, 107, 108, 109].all (fun y => wCode y) = true := by decide +kernel
set_option maxRecDepth 100000 in
theorem wf_10 : [100, 101, 102, 103, 104, 105, 106, 107, 108, 109].all (fun y => wFace y) = true := by decide +kernel
set_option maxRecDepth 100000 in
theorem wc_11 : [110, 111, 112, 113, 114, 115, 116, 117, 118, 119].all (fun y => wCode y) = true := by decide +kernel
set_option maxRecDepth 100000 in
theorem wf_11 : [110, 111, 112, 113, 114, 115, 116, 117, 118, 119].all (fun y => wFace y) = true := by decide +kernel
set_option maxRecDepth 100000 in
theorem wc_12 : [120, 121, 122, 123, 124, 125, 126, 127, 128, 129].all (fun y => wCode y) = true := by decide +kernel
set_option maxRecDepth 100000 in
theorem wf_12 : [120, 121, 122, 123, 124, 125, 126, 127, 128, 129].all (fun y => wFace y) = true := by decide +kernel
set_option maxRecDepth 100000 in
theorem wc_13 : [130, 131, 132, 133, 134, 135, 136, 137, 138, 139].all (fun y => wCode y) = true := by decide +kernel
set_option maxRecDepth 100000 in
theorem wf_13 : [130, 131, 132, 133, 134, 135, 136, 137, 138, 139].all (fun y => wFace y) = true := by decide +kernel
set_option maxRecDepth 100000 in
theorem wc_14 : [140, 141, 142, 143, 144, 145, 146, 147, 148, 149].all (fun y => wCode y) = true := by decide +kernel
set_option maxRecDepth 100000 in
theorem wf_14 : [140, 141, 142, 143, 144, 145, 146, 147, 148, 149].all (fun y => wFace y) = true := by decide +kernel
set_option maxRecDepth 100000 in
theorem wc_15 : [150, 151, 152, 153, 154, 155, 156, 157, 158, 159].all (fun y => wCode y) = true := by decide +kernel
set_option maxRecDepth 100000 in
theorem wf_15 : [150, 151, 152, 153, 154, 155, 156, 157, 158, 159].all (fun y => wFace y) = true := by decide +kernel
set_option maxRecDepth 100000 in
theorem wc_16 : [160, 161, 162, 163, 164, 165, 166, 167, 168, 169].all (fun y => wCode y) = true := by decide +kernel
set_option maxRecDepth 100000 in
theorem wf_16 : [160, 161, 162, 163, 164, 165, 166, 167, 168, 169].all (fun y => wFace y) = true := by decide +kernel
set_option maxRecDepth 100000 in
theorem wc_17 : [170, 171, 172, 173, 174, 175, 176, 177, 178, 179].all (fun y => wCode y) = true := by decide +kernel
set_option maxRecDepth 100000 in
theorem wf_17 : [170, 171, 172, 173, 174, 175, 176, 177, 178, 179].all (fun y => wFace y) = true := by decide +kernel
set_option maxRecDepth 100000 in
theorem wc_18 : [180, 181, 182, 183, 184, 185, 186, 187, 188, 189].all (fun y => wCode y) = true := by decide +kernel
set_option maxRecDepth 100000 in
theorem wf_18 : [180, 181, 182, 183, 184, 185, 186, 187, 188, 189].all (fun y => wFace y) = true := by decide +kernel
set_option maxRecDepth 100000 in
theorem wc_19 : [190, 191, 192, 193, 194, 195, 196, 197, 198, 199].all (fun y => wCode y) = true := by decide +kernel
set_option maxRecDepth 100000 in
theorem wf_19 : [190, 191, 192, 193, 194, 195, 196, 197, 198, 199].all (fun y => wFace y) = true := by decide +kernel
set_option maxRecDepth 100000 in
theorem wc_20 : [200, 201, 202, 203, 204, 205, 206, 207, 208, 209].all (fun y => wCode y) = true := by decide +kernel
set_option maxRecDepth 100000 in
theorem wf_20 : [200, 201, 202, 203, 204, 205, 206, 207, 208, 209].all (fun y => wFace y) = true := by decide +kernel
set_option maxRecDepth 100000 in
theorem wc_21 : [210, 211, 212, 213, 214, 215, 216, 217, 218, 219].all (fun y => wCode y) = true := by decide +kernel
set_option maxRecDepth 100000 in
theorem wf_21 : [210, 211, 212, 213, 214, 215, 216, 217, 218, 219].all (fun y => wFace y) = true := by decide +kernel
end
section
set_option maxRecDepth 100000 in
theorem td_all : ∀ q ∈ mT, q.2.2.2.all (fun x => decide (decode q.2.1 x.1 = .ok x.2)) = true := List.forall_mem_cons.mpr ⟨td_X0_add, List.forall_mem_cons.mpr ⟨td_X0_formOf, List.forall_mem_cons.mpr ⟨td_X0_fits, List.forall_mem_cons.mpr ⟨td_X0_kindOf, List.forall_mem_cons.mpr ⟨td_X0_firstWrong, List.forall_mem_cons.mpr ⟨td_X0_letterAt, List.forall_mem_cons.mpr ⟨td_X0_digitAt, List.forall_mem_cons.mpr ⟨td_X0_numberAt, List.forall_mem_cons.mpr ⟨td_X0_tell, List.forall_mem_cons.mpr ⟨td_X0_tellDays, List.forall_mem_cons.mpr ⟨td_X1_hear, List.forall_mem_cons.mpr ⟨td_X1_behind, List.forall_mem_cons.mpr ⟨td_X1_downBehind, List.forall_mem_cons.mpr ⟨td_X1_downFromThen, List.forall_mem_cons.mpr ⟨td_X1_firstDownBehind, List.forall_mem_cons.mpr ⟨td_X1_flatBehind, List.forall_mem_cons.mpr ⟨td_X1_betterLean, List.forall_mem_cons.mpr ⟨td_X1_bestOfThree, List.forall_mem_cons.mpr ⟨td_X1_standingLeant, List.forall_mem_cons.mpr ⟨td_X1_toMend, List.forall_mem_cons.mpr ⟨td_X1_toBreak, List.forall_mem_cons.mpr ⟨td_X1_standingWith, List.forall_mem_cons.mpr ⟨td_X1_safestPlace, List.forall_mem_cons.mpr ⟨td_X1_felledFrom, List.forall_mem_cons.mpr ⟨td_X1_standingRobbed, List.forall_mem_cons.mpr ⟨td_X1_nothingToRobBehind, List.forall_mem_cons.mpr ⟨td_X1_waysUp, List.forall_mem_cons.mpr ⟨td_X1_isUpDraughted, List.forall_mem_cons.mpr ⟨td_X1_settled, List.forall_mem_cons.mpr ⟨td_X1_standingPushed, List.forall_mem_cons.mpr ⟨td_X1_weakensAs, List.forall_mem_cons.mpr ⟨td_X1_firstMisjudged, List.forall_mem_cons.mpr ⟨td_X1_termsByLot, List.forall_mem_cons.mpr ⟨td_X1_nextSeed, List.forall_mem_cons.mpr ⟨td_X1_drawBelow, List.forall_mem_cons.mpr ⟨td_X2_become, List.forall_mem_cons.mpr ⟨td_X2_isPurpose, List.forall_mem_cons.mpr ⟨td_X2_isThing, List.forall_mem_cons.mpr ⟨td_X2_isUp, List.forall_mem_cons.mpr ⟨td_X2_isFreeFor, List.forall_mem_cons.mpr ⟨td_X2_standing, List.forall_mem_cons.mpr ⟨td_X2_spareOf, List.forall_mem_cons.mpr ⟨td_X2_allStrength, List.forall_mem_cons.mpr ⟨td_X2_allLoad, List.forall_mem_cons.mpr ⟨td_X2_addPurpose, List.forall_mem_cons.mpr ⟨td_X2_addThing, List.forall_mem_cons.mpr ⟨td_X2_leanOn, List.forall_mem_cons.mpr ⟨td_X2_raise, List.forall_mem_cons.mpr ⟨td_X2_strengthen, List.forall_mem_cons.mpr ⟨td_X2_moveTo, List.forall_mem_cons.mpr ⟨td_X2_weigh, List.forall_mem_cons.mpr ⟨td_X2_passDays, List.forall_mem_cons.mpr ⟨td_X2_passDay, List.forall_mem_cons.mpr ⟨td_X2_heaviestOn, List.forall_mem_cons.mpr ⟨td_X2_topple, List.forall_mem_cons.mpr ⟨td_X2_felledBy, List.forall_mem_cons.mpr ⟨td_X2_leastPlaced, List.forall_mem_cons.mpr ⟨td_X2_leastPlacedWithoutSpare, List.forall_mem_cons.mpr ⟨td_X2_worstPush, List.forall_mem_cons.mpr ⟨td_X2_gapBehind, List.forall_mem_cons.mpr ⟨td_X2_besideFrom, List.forall_mem_cons.mpr ⟨td_X2_longestFrom, List.forall_mem_cons.mpr ⟨td_X2_mostWithin, List.forall_mem_cons.mpr ⟨td_X2_weightOf, List.forall_mem_cons.mpr ⟨td_X3_by, List.forall_mem_cons.mpr ⟨td_X3_ofHabit, List.forall_mem_cons.mpr ⟨td_X4_letter, List.forall_mem_cons.mpr ⟨td_X4_rack, List.forall_mem_cons.mpr ⟨td_X4_purpose, List.forall_mem_cons.mpr ⟨td_X4_lessNextDay, List.forall_mem_cons.mpr ⟨td_X4_spare, List.forall_mem_cons.mpr ⟨td_X4_thing, List.forall_mem_cons.mpr ⟨td_X4_at, List.forall_mem_cons.mpr ⟨td_X4_count, List.forall_mem_cons.mpr ⟨td_X4_leans, List.forall_mem_cons.mpr ⟨td_X4_moves, List.forall_mem_cons.mpr ⟨td_X4_setsUp, List.forall_mem_cons.mpr ⟨td_X4_pushes, List.forall_mem_cons.mpr ⟨td_X4_strong, List.forall_mem_cons.mpr ⟨td_X4_turn, List.forall_mem_cons.mpr ⟨td_X4_days, List.forall_mem_cons.mpr ⟨td_X4_upThen, List.forall_mem_cons.mpr ⟨td_X4_allThen, List.forall_mem_cons.mpr ⟨td_X4_purposeThen, List.forall_mem_cons.mpr ⟨td_X4_falls, List.forall_mem_cons.mpr ⟨td_X4_first, List.forall_mem_cons.mpr ⟨td_X4_pushed, List.forall_mem_cons.mpr ⟨td_X4_worst, List.forall_mem_cons.mpr ⟨td_X4_gap, List.forall_mem_cons.mpr ⟨td_X4_longest, List.forall_mem_cons.mpr ⟨td_X4_bestPlace, List.forall_mem_cons.mpr ⟨td_X4_lean, List.forall_mem_cons.mpr ⟨td_X4_bestLeans, List.forall_mem_cons.mpr ⟨td_X4_mended, List.forall_mem_cons.mpr ⟨td_X4_key, List.forall_mem_cons.mpr ⟨td_X4_takes, List.forall_mem_cons.mpr ⟨td_X4_balanced, List.forall_mem_cons.mpr ⟨td_X4_thief, List.forall_mem_cons.mpr ⟨td_X4_robbed, List.forall_mem_cons.mpr ⟨td_X4_draught, List.forall_mem_cons.mpr ⟨td_X4_offDraught, List.forall_mem_cons.mpr ⟨td_X4_two, List.forall_mem_cons.mpr ⟨td_X4_whatWas, List.forall_mem_cons.mpr ⟨td_X4_kindsThatFit, List.forall_mem_cons.mpr ⟨td_X4_figuresThatFit, List.forall_mem_cons.mpr ⟨td_X4_row, List.forall_mem_cons.mpr ⟨td_X4_judge, List.forall_mem_cons.mpr ⟨td_X4_clear, List.forall_mem_cons.mpr ⟨td_X4_lots, List.forall_mem_cons.mpr ⟨td_X4_image, List.forall_mem_cons.mpr ⟨td_X4_on, List.forall_mem_cons.mpr ⟨td_X4_refuse, List.forall_mem_cons.mpr ⟨td_X4_offUpThing, List.forall_mem_cons.mpr ⟨td_X4_outside, List.forall_mem_cons.mpr ⟨td_X4_isNeither, List.forall_mem_cons.mpr ⟨td_X4_isPlace, List.forall_mem_cons.mpr ⟨td_X4_has, List.forall_mem_cons.mpr ⟨td_X4_power, List.forall_mem_cons.mpr ⟨td_X4_commonDivisor, List.forall_mem_cons.mpr ⟨td_X5_isIn, List.forall_mem_cons.mpr ⟨td_X5_most, List.forall_mem_cons.mpr ⟨td_X5_copies, List.forall_mem_cons.mpr ⟨td_X5_no, List.forall_mem_cons.mpr ⟨td_X5_noFar, List.forall_mem_cons.mpr ⟨td_X5_noWide, List.forall_mem_cons.mpr ⟨td_X5_ofP, List.forall_mem_cons.mpr ⟨td_X5_ofT, List.forall_mem_cons.mpr ⟨td_X5_isPurpose, List.forall_mem_cons.mpr ⟨td_X5_isThing, List.forall_mem_cons.mpr ⟨td_X5_isPlace, List.forall_mem_cons.mpr ⟨td_X5_isUp, List.forall_mem_cons.mpr ⟨td_X5_bits, List.forall_mem_cons.mpr ⟨td_X5_loadOf, List.forall_mem_cons.mpr ⟨td_X5_spareOf, List.forall_mem_cons.mpr ⟨td_X5_lessBy, List.forall_mem_cons.mpr ⟨td_X5_whoAt, List.forall_mem_cons.mpr ⟨td_X5_fells, List.forall_mem_cons.mpr ⟨td_X5_heaviestOn, List.forall_mem_cons.mpr ⟨td_X5_day, List.forall_mem_cons.mpr ⟨td_X5_daysOn, List.forall_mem_cons.mpr ⟨td_X5_upSet, List.forall_mem_cons.mpr ⟨td_X5_upIn, List.forall_mem_cons.mpr ⟨td_X5_letter, List.forall_mem_cons.mpr ⟨td_X5_here, List.forall_mem_cons.mpr ⟨td_X5_readsNumber, List.forall_mem_cons.mpr ⟨td_X5_kindBy, List.forall_mem_cons.mpr ⟨td_X5_readsKind, List.forall_mem_cons.mpr ⟨td_X5_readsStatement, List.forall_mem_cons.mpr ⟨td_X5_addsPurpose, List.forall_mem_cons.mpr ⟨td_X5_addsThing, List.forall_mem_cons.mpr ⟨td_X5_isDone, List.forall_mem_cons.mpr ⟨td_X5_rack, List.forall_mem_cons.mpr ⟨td_X5_purpose, List.forall_mem_cons.mpr ⟨td_X5_spare, List.forall_mem_cons.mpr ⟨td_X5_thing, List.forall_mem_cons.mpr ⟨td_X5_at, List.forall_mem_cons.mpr ⟨td_X5_leans, List.forall_mem_cons.mpr ⟨td_X5_moves, List.forall_mem_cons.mpr ⟨td_X5_setsUp, List.forall_mem_cons.mpr ⟨td_X5_wrongUp, List.forall_mem_cons.mpr ⟨td_X5_pushes, List.forall_mem_cons.mpr ⟨td_X5_wrongBy, List.forall_mem_cons.mpr ⟨td_X5_strong, List.forall_mem_cons.mpr ⟨td_X5_turn, List.forall_mem_cons.mpr ⟨td_X5_days, List.forall_mem_cons.mpr ⟨td_X5_takesOn, List.forall_mem_cons.mpr ⟨td_X5_upThen, List.forall_mem_cons.mpr ⟨td_X5_allThen, List.forall_mem_cons.mpr ⟨td_X5_purposeThen, List.forall_mem_cons.mpr ⟨td_X5_downIn, List.forall_mem_cons.mpr ⟨td_X5_fallsOf, List.forall_mem_cons.mpr ⟨td_X5_falls, List.forall_mem_cons.mpr ⟨td_X5_first, List.forall_mem_cons.mpr ⟨td_X5_pushedBy, List.forall_mem_cons.mpr ⟨td_X5_pushed, List.forall_mem_cons.mpr ⟨td_X5_worst, List.forall_mem_cons.mpr ⟨td_X5_gap, List.forall_mem_cons.mpr ⟨td_X5_longest, List.forall_mem_cons.mpr ⟨td_X5_orNever, List.forall_mem_cons.mpr ⟨td_X5_lean, List.forall_mem_cons.mpr ⟨td_X5_bestLeans, List.forall_mem_cons.mpr ⟨td_X5_upWith, List.forall_mem_cons.mpr ⟨td_X5_mended, List.forall_mem_cons.mpr ⟨td_X5_key, List.forall_mem_cons.mpr ⟨td_X5_takes, List.forall_mem_cons.mpr ⟨td_X5_weightOf, List.forall_mem_cons.mpr ⟨td_X5_balanced, List.forall_mem_cons.mpr ⟨td_X5_leastToPush, List.forall_mem_cons.mpr ⟨td_X5_pushesLeast, List.forall_mem_cons.mpr ⟨td_X5_thief, List.forall_mem_cons.mpr ⟨td_X5_robbed, List.forall_mem_cons.mpr ⟨td_X5_bestPlace, List.forall_mem_cons.mpr ⟨td_X5_gcd, List.forall_mem_cons.mpr ⟨td_X5_partOf, List.forall_mem_cons.mpr ⟨td_X5_draught, List.forall_mem_cons.mpr ⟨td_X5_upPushed, List.forall_mem_cons.mpr ⟨td_X5_two, List.forall_mem_cons.mpr ⟨td_X5_whatWas, List.forall_mem_cons.mpr ⟨td_X5_row, List.forall_mem_cons.mpr ⟨td_X5_judge, List.forall_mem_cons.mpr ⟨td_X5_clear, List.forall_mem_cons.mpr ⟨td_X5_drawn, List.forall_mem_cons.mpr ⟨td_X5_strengthAll, List.forall_mem_cons.mpr ⟨td_X5_lots, List.forall_mem_cons.mpr ⟨td_X5_image, List.forall_mem_cons.mpr ⟨td_X5_on, List.forall_mem_cons.mpr ⟨td_X5_count, List.forall_mem_cons.mpr ⟨td_J6_bitCount_0f7a4, List.forall_mem_cons.mpr ⟨td_J0_length_8abf5, List.forall_mem_cons.mpr ⟨td_J0_charAt_5068e, List.forall_mem_cons.mpr ⟨td_J0_indexOf_0f7a4, List.forall_mem_cons.mpr ⟨td_J0_indexOf_7cf53, List.forall_mem_cons.mpr ⟨td_J0_coder_7d493, List.forall_mem_cons.mpr ⟨td_J0_isLatin1_aae02, List.forall_mem_cons.mpr ⟨td_J0_checkIndex_df160, List.forall_mem_cons.mpr ⟨td_J1_charAt_3b067, List.forall_mem_cons.mpr ⟨td_J1_canEncode_9a6ad, List.forall_mem_cons.mpr ⟨td_J1_indexOf_4cfef, List.forall_mem_cons.mpr ⟨td_J1_indexOfChar_4cfef, List.forall_mem_cons.mpr ⟨td_J3_checkIndex_8e157, List.forall_mem_cons.mpr ⟨td_L_law, fun _ h => absurd h List.not_mem_nil⟩⟩⟩⟩⟩⟩⟩⟩⟩⟩⟩⟩⟩⟩⟩⟩⟩⟩⟩⟩⟩⟩⟩⟩⟩⟩⟩⟩⟩⟩⟩⟩⟩⟩⟩⟩⟩⟩⟩⟩⟩⟩⟩⟩⟩⟩⟩⟩⟩⟩⟩⟩⟩⟩⟩⟩⟩⟩⟩⟩⟩⟩⟩⟩⟩⟩⟩⟩⟩⟩⟩⟩⟩⟩⟩⟩⟩⟩⟩⟩⟩⟩⟩⟩⟩⟩⟩⟩⟩⟩⟩⟩⟩⟩⟩⟩⟩⟩⟩⟩⟩⟩⟩⟩⟩⟩⟩⟩⟩⟩⟩⟩⟩⟩⟩⟩⟩⟩⟩⟩⟩⟩⟩⟩⟩⟩⟩⟩⟩⟩⟩⟩⟩⟩⟩⟩⟩⟩⟩⟩⟩⟩⟩⟩⟩⟩⟩⟩⟩⟩⟩⟩⟩⟩⟩⟩⟩⟩⟩⟩⟩⟩⟩⟩⟩⟩⟩⟩⟩⟩⟩⟩⟩⟩⟩⟩⟩⟩⟩⟩⟩⟩⟩⟩⟩⟩⟩⟩⟩⟩⟩⟩⟩⟩⟩⟩⟩⟩⟩⟩⟩⟩⟩⟩⟩⟩⟩⟩⟩⟩⟩⟩⟩⟩⟩⟩⟩⟩⟩⟩⟩
theorem lookup_in {α : Type} {pc : Nat} {v : α} : ∀ (l : List (Nat × α)), l.lookup pc = some v → (pc, v) ∈ l := by
  intro l
  induction l with
  | nil => intro h; cases h
  | cons a l ih =>
    intro h
    obtain ⟨k, w⟩ := a
    rw [List.lookup_cons] at h
    cases e : (pc == k)
    · rw [e] at h; exact List.mem_cons_of_mem _ (ih h)
    · rw [e] at h
      have e1 : pc = k := by simpa using e
      cases h
      rw [e1]; exact List.mem_cons_self
theorem fetch_c (q : MT) (h1 : q.2.2.2.all (fun x => decide (decode q.2.1 x.1 = .ok x.2)) = true) {pc n : Nat} {i : Instr} (h : q.2.2.2.lookup pc = some (i, n)) : decode q.2.1 pc = .ok (i, n) := by
  have h3 := List.all_eq_true.mp h1 (pc, (i, n)) (lookup_in _ h)
  exact of_decide_eq_true h3
theorem fetch_ok {y pc n : Nat} {i : Instr} (h : fetch y pc = some (i, n)) : decode (mB y) pc = .ok (i, n) := by
  unfold fetch at h
  have hm : mR y ∈ mT ∨ mR y = mD := by
    unfold mR
    by_cases hy : y < mT.length
    · left; rw [List.getD_eq_getElem?_getD, List.getElem?_eq_getElem hy]; exact List.getElem_mem hy
    · right; rw [List.getD_eq_getElem?_getD, List.getElem?_eq_none (Nat.le_of_not_lt hy)]; rfl
  rcases hm with hm | hm
  · have h1 := td_all _ hm
    exact fetch_c (mR y) h1 h
  · unfold mTb at h; rw [hm] at h; cases h
def lkR : List (Nat × (Nat × (Nat × Nat))) := [(0, (33, (3, 1230))), (0, (39, (210, 1234))), (0, (44, (208, 1170))), (0, (48, (1, 1180))), (0, (52, (209, 1189))), (0, (56, (2, 1227))), (0, (60, (5, 2068))), (0, (63, (6, 2072))), (0, (66, (7, 2076))), (0, (69, (44, 2080))), (0, (75, (45, 2084))), (0, (78, (46, 2115))), (0, (82, (47, 2119))), (0, (86, (48, 2120))), (0, (89, (9, 2124))), (0, (96, (52, 2127))), (1, (25, (35, 2057))), (1, (35, (8, 2064))), (1, (39, (5, 2163))), (1, (43, (1, 2164))), (1, (47, (208, 2165))), (1, (53, (51, 3027))), (1, (57, (13, 3047))), (1, (60, (38, 3051))), (1, (64, (52, 3052))), (1, (73, (46, 3129))), (1, (77, (18, 3138))), (1, (81, (40, 3142))), (1, (84, (11, 3152))), (1, (88, (21, 3153))), (1, (92, (48, 3157))), (1, (95, (39, 3112))), (1, (98, (23, 3113))), (1, (102, (49, 3117))), (1, (106, (55, 3118))), (1, (109, (207, 3119))), (1, (114, (57, 3190))), (1, (117, (54, 3194))), (1, (120, (27, 3216))), (1, (131, (56, 3221))), (1, (134, (29, 3237))), (1, (137, (36, 4013))), (1, (152, (33, 4042))), (1, (155, (34, 4047))), (1, (158, (42, 4051))), (2, (65, (207, 2157))), (2, (71, (36, 2088))), (2, (74, (39, 2092))), (2, (78, (47, 2099))), (2, (81, (37, 2103))), (2, (84, (38, 2107))), (2, (87, (50, 2111))), (2, (91, (52, 3014))), (2, (94, (64, 2131))), (2, (106, (41, 2138))), (2, (109, (53, 2142))), (2, (112, (54, 2146))), (2, (115, (55, 2150))), (2, (121, (60, 3099))), (2, (124, (63, 3178))), (3, (7, (65, 2134))), (4, (49, (111, 1153))), (4, (56, (0, 1157))), (4, (60, (4, 1165))), (4, (64, (10, 2053))), (4, (68, (36, 2171))), (4, (84, (69, 2172))), (4, (90, (64, 2176))), (4, (97, (41, 2182))), (4, (100, (37, 2187))), (4, (112, (38, 2188))), (4, (115, (115, 2193))), (4, (130, (42, 2198))), (4, (133, (43, 2202))), (4, (136, (46, 2210))), (4, (140, (39, 2215))), (4, (143, (49, 2216))), (4, (147, (47, 2224))), (4, (150, (112, 2229))), (4, (153, (54, 2233))), (4, (156, (113, 2238))), (4, (166, (51, 3010))), (4, (169, (40, 3015))), (4, (172, (11, 3023))), (4, (176, (114, 3036))), (4, (179, (12, 3043))), (4, (182, (15, 3057))), (4, (185, (14, 3061))), (4, (188, (56, 3065))), (4, (191, (55, 3073))), (4, (194, (58, 3078))), (4, (197, (207, 3082))), (4, (202, (59, 3087))), (4, (205, (61, 3095))), (4, (208, (60, 3103))), (4, (211, (22, 3108))), (4, (214, (23, 3120))), (4, (217, (16, 3125))), (4, (220, (17, 3134))), (4, (224, (18, 3143))), (4, (227, (19, 3148))), (4, (230, (20, 3162))), (4, (233, (62, 3174))), (4, (236, (24, 3186))), (4, (239, (25, 3199))), (4, (242, (100, 3207))), (4, (247, (26, 3212))), (4, (251, (117, 3225))), (4, (255, (118, 3226))), (4, (259, (28, 3233))), (4, (262, (103, 4005))), (4, (265, (104, 4014))), (4, (268, (30, 4009))), (4, (272, (31, 4026))), (4, (276, (32, 4038))), (4, (279, (35, 4056))), (5, (38, (122, 4114))), (5, (44, (119, 4141))), (5, (48, (126, 4168))), (5, (51, (130, 4193))), (5, (55, (125, 4155))), (5, (58, (132, 4190))), (5, (62, (135, 4165))), (5, (65, (134, 4187))), (5, (69, (120, 4196))), (5, (73, (133, 4199))), (5, (76, (137, 4202))), (5, (79, (136, 4205))), (5, (82, (138, 4183))), (5, (86, (139, 4179))), (5, (90, (140, 5024))), (5, (94, (131, 5027))), (5, (104, (143, 4126))), (5, (108, (145, 4134))), (5, (111, (146, 4130))), (5, (115, (144, 4137))), (5, (119, (129, 4162))), (5, (123, (127, 4171))), (5, (126, (148, 4151))), (5, (129, (149, 4158))), (5, (132, (128, 4175))), (5, (135, (147, 4122))), (5, (138, (121, 4144))), (5, (142, (150, 4147))), (5, (145, (123, 4216))), (5, (148, (159, 5005))), (5, (151, (161, 5013))), (5, (154, (165, 5034))), (5, (158, (141, 5042))), (5, (161, (169, 5058))), (5, (165, (170, 5054))), (5, (168, (173, 5070))), (5, (171, (178, 5090))), (5, (174, (181, 5101))), (5, (178, (185, 5117))), (5, (181, (187, 5129))), (5, (185, (188, 5125))), (5, (189, (192, 5152))), (5, (193, (124, 5144))), (5, (197, (193, 5149))), (5, (201, (195, 5159))), (5, (214, (201, 5183))), (5, (217, (202, 5190))), (7, (335, (212, 1174))), (7, (492, (213, 1193))), (7, (495, (215, 1197))), (7, (505, (208, 2002))), (7, (633, (211, 1238))), (7, (637, (217, 2003))), (7, (1059, (219, 1205))), (8, (9, (214, 1200))), (8, (88, (216, 2006))), (8, (95, (218, 2015))), (10, (13, (66, 1149))), (10, (17, (142, 4110))), (10, (18, (67, 1161))), (10, (22, (151, 4118))), (10, (23, (68, 2167))), (10, (27, (152, 4208))), (10, (28, (70, 2177))), (10, (31, (153, 4212))), (10, (32, (71, 2183))), (10, (35, (154, 4221))), (10, (36, (72, 2189))), (10, (39, (155, 4225))), (10, (40, (74, 2206))), (10, (43, (156, 4229))), (10, (44, (75, 2211))), (10, (47, (157, 4233))), (10, (48, (76, 2220))), (10, (51, (158, 4237))), (10, (52, (77, 2225))), (10, (55, (160, 5001))), (10, (56, (78, 2234))), (10, (59, (162, 5009))), (10, (60, (79, 3001))), (10, (64, (163, 5016))), (10, (65, (80, 3005))), (10, (68, (164, 5020))), (10, (69, (81, 3019))), (10, (72, (166, 5030))), (10, (73, (82, 3028))), (10, (76, (167, 5038))), (10, (77, (83, 3032))), (10, (80, (168, 5046))), (10, (81, (84, 3039))), (10, (84, (171, 5050))), (10, (85, (85, 3053))), (10, (88, (172, 5062))), (10, (89, (86, 3069))), (10, (92, (174, 5066))), (10, (93, (87, 3074))), (10, (96, (175, 5074))), (10, (97, (88, 3083))), (10, (100, (176, 5078))), (10, (101, (89, 3091))), (10, (104, (177, 5082))), (10, (105, (91, 3121))), (10, (108, (179, 5086))), (10, (109, (92, 3130))), (10, (113, (180, 5093))), (10, (114, (93, 3144))), (10, (117, (182, 5097))), (10, (118, (94, 3158))), (10, (121, (183, 5105))), (10, (122, (95, 3166))), (10, (125, (184, 5109))), (10, (126, (96, 3170))), (10, (129, (186, 5113))), (10, (130, (97, 3182))), (10, (133, (189, 5121))), (10, (134, (98, 3195))), (10, (137, (190, 5132))), (10, (138, (90, 3104))), (10, (141, (191, 5136))), (10, (142, (99, 3203))), (10, (146, (194, 5140))), (10, (147, (101, 3229))), (10, (150, (196, 5155))), (10, (151, (102, 4001))), (10, (154, (197, 5163))), (10, (155, (105, 4018))), (10, (158, (198, 5167))), (10, (159, (106, 4022))), (10, (162, (199, 5171))), (10, (163, (107, 4030))), (10, (166, (200, 5175))), (10, (167, (108, 4034))), (10, (170, (203, 5179))), (10, (171, (109, 4052))), (10, (174, (204, 5193))), (10, (175, (110, 4057))), (10, (178, (205, 5197))), (10, (179, (73, 2194))), (10, (182, (206, 5201)))]
def wLnk (q : Nat × (Nat × (Nat × Nat))) : Bool := wAt q.2.2.2 (.methodLink (cN q.1) q.2.1 (mN q.2.2.1)) && Nat.blt q.2.2.1 220
set_option maxRecDepth 100000 in
theorem wl_0 : ((lkR.drop 0).take 40).all wLnk = true := by decide +kernel
set_option maxRecDepth 100000 in
theorem wl_1 : ((lkR.drop 40).take 40).all wLnk = true := by decide +kernel
set_option maxRecDepth 100000 in
theorem wl_2 : ((lkR.drop 80).take 40).all wLnk = true := by decide +kernel
set_option maxRecDepth 100000 in
theorem wl_3 : ((lkR.drop 120).take 40).all wLnk = true := by decide +kernel
set_option maxRecDepth 100000 in
theorem wl_4 : ((lkR.drop 160).take 40).all wLnk = true := by decide +kernel
set_option maxRecDepth 100000 in
theorem wl_5 : ((lkR.drop 200).take 40).all wLnk = true := by decide +kernel
set_option maxRecDepth 100000 in
theorem wl_6 : ((lkR.drop 240).take 40).all wLnk = true := by decide +kernel
def vwD (o : Nat) : vw_C := vwC.getD o (RX0, TX0, 2)
def wFld (c : Nat) (q : Nat × (Nat × (Nat × Nat))) : Bool := wAt q.2.2.2 (.fieldLink (cN c) q.1 ((vwD q.2.1).2.1 q.2.2.1).1 ((vwD q.2.1).2.1 q.2.2.1).2.1 ((vwD q.2.1).2.1 q.2.2.1).2.2.1) && Nat.blt q.2.2.1 (vwD q.2.1).2.2 && Nat.blt q.2.1 5
set_option maxRecDepth 100000 in
theorem wFld_ok : (List.range 11).all (fun c => (fkT.getD c []).all (wFld c)) = true := by decide +kernel
set_option maxRecDepth 100000 in
theorem wCst_ok : (List.range 11).all (fun c => (ckT.getD c []).all (fun q => wAt q.2.2 (.constant (cN c) q.1 (Int32.ofInt q.2.1)) && decide (-2147483648 ≤ q.2.1 ∧ q.2.1 < 2147483648))) = true := by decide +kernel
set_option maxRecDepth 100000 in
theorem wCsl_ok : (List.range 11).all (fun c => (clT.getD c []).all (fun q => wAt q.2.2 (.constantLong (cN c) q.1 (Int64.ofInt q.2.1)) && decide (-9223372036854775808 ≤ q.2.1 ∧ q.2.1 < 9223372036854775808))) = true := by decide +kernel
set_option maxRecDepth 100000 in
theorem wStr_ok : (List.range 8).all (fun k => wRaw (strP.getD k 0) (.stringRef RX0 (strI.getD k 0) (strX.getD k ""))) = true := by decide +kernel
def wNam (y : Nat) : Bool := decide ((mN y).cls = cN (mC y)) && plainName (mN y).cls && decide ((mN y).cls ≠ "java/lang/invoke/MethodHandle") && decide ((mN y).cls ≠ "java/lang/invoke/VarHandle") && decide ((parseMethodDescriptor (mN y).desc).map (fun d => d.parameters.length) = some (if mSt y = true then mNA y else mNA y - 1)) && (if mSt y = true then true else Nat.ble 1 (mNA y)) && Nat.blt (mC y) 11
def rtK (k : Nat) (r : Option FieldType) : Bool := match k with
  | 0 => decide (r = none)
  | 1 => decide (r = some .int)
  | 2 => decide (r = some .boolean)
  | 3 => decide (r = some .char)
  | 4 => decide (r = some .byte)
  | 5 => decide (r = some .long)
  | 6 => (match r with | some (.object _) => true | _ => false)
  | _ => false
set_option maxRecDepth 100000 in
theorem wn_0 : (((List.range 221).drop 0).take 60).all (fun y => wNam y && rtK (mK y) (mRt y)) = true := by decide +kernel
set_option maxRecDepth 100000 in
theorem wn_1 : (((List.range 221).drop 60).take 60).all (fun y => wNam y && rtK (mK y) (mRt y)) = true := by decide +kernel
set_option maxRecDepth 100000 in
theorem wn_2 : (((List.range 221).drop 120).take 60).all (fun y => wNam y && rtK (mK y) (mRt y)) = true := by decide +kernel
set_option maxRecDepth 100000 in
theorem wn_3 : (((List.range 221).drop 180).take 60).all (fun y => wNam y && rtK (mK y) (mRt y)) = true := by decide +kernel
set_option maxRecDepth 100000 in
theorem wPm_ok : (List.range 11).all (fun c => (pmT.getD c []).all (fun q => wAt q.2.2 (.methodLink (cN c) q.1 (if q.2.1 == 0 then Lib.Math.max.name else Lib.Math.min.name)))) = true := by decide +kernel
set_option maxRecDepth 100000 in
theorem wPm2 : (wAt (pmP.getD 0 0) (.initialized "java/lang/Math") && wAt (pmP.getD 1 0) (.static Lib.Math.max.name) && wAt (pmP.getD 2 0) (.code Lib.Math.max.name Lib.Math.max.code 2 (some .int)) && wAt (pmP.getD 3 0) (.static Lib.Math.min.name) && wAt (pmP.getD 4 0) (.code Lib.Math.min.name Lib.Math.min.code 2 (some .int))) = true := by decide +kernel
set_option maxRecDepth 100000 in
theorem wNs : (wRaw 3222 (.methodLinkNest RX1 124 yX4_power RX4) && wRaw 3220 (.methodLinkNest RX1 128 yX4_has RX4) && wRaw 2096 (.methodLinkNest RX2 61 yX4_isPlace RX4) && wRaw 2154 (.methodLinkNest RX2 118 yX4_has RX4)) = true := by decide +kernel
set_option maxRecDepth 100000 in
theorem wAr : (wAt (arP.getD 0 0) (.methodLink RX2 55 arraycopyName) && wAt (arP.getD 1 0) (.native arraycopyName) && wAt (arP.getD 2 0) (.static arraycopyName) && wAt (arP.getD 3 0) (.initialized "java/lang/System")) = true := by decide +kernel
set_option maxRecDepth 100000 in
theorem wu_RX0 : (u_ws RX0 TX0 2).all (fun w => decide (w ∈ lwg)) = true := by decide +kernel
set_option maxRecDepth 100000 in
theorem wu_RX1 : (u_ws RX1 TX1 3).all (fun w => decide (w ∈ lwg)) = true := by decide +kernel
set_option maxRecDepth 100000 in
theorem wu_RX2 : (u_ws RX2 TX2 12).all (fun w => decide (w ∈ lwg)) = true := by decide +kernel
set_option maxRecDepth 100000 in
theorem wu_RX4 : (u_ws RX4 TX4 8).all (fun w => decide (w ∈ lwg)) = true := by decide +kernel
set_option maxRecDepth 100000 in
theorem wu_RX5 : (u_ws RX5 TX5 14).all (fun w => decide (w ∈ lwg)) = true := by decide +kernel
end
section
/-! numbers -/
def okI (x : Int) : Prop := -2147483648 ≤ x ∧ x < 2147483648
def okL (x : Int) : Prop := -9223372036854775808 ≤ x ∧ x < 9223372036854775808
theorem toI {x : Int} (h : okI x) : (Int32.ofInt x).toInt = x := Int32.toInt_ofInt_of_le (by have := h.1; omega) (by have := h.2; omega)
theorem toL {x : Int} (h : okL x) : (Int64.ofInt x).toInt = x := Int64.toInt_ofInt_of_le (by have := h.1; omega) (by have := h.2; omega)
theorem okI_to (x : Int32) : okI x.toInt := ⟨by have := x.le_toInt; omega, by have := x.toInt_lt; omega⟩
theorem wr_ok (x : Int) : okI (wr x) := by
  have h1 := Int.le_bmod (x := x) (m := 4294967296) (by decide)
  have h2 := Int.bmod_lt (x := x) (m := 4294967296) (by decide)
  unfold wr okI; constructor <;> omega
theorem wl_ok (x : Int) : okL (wl x) := by
  have h1 := Int.le_bmod (x := x) (m := 18446744073709551616) (by decide)
  have h2 := Int.bmod_lt (x := x) (m := 18446744073709551616) (by decide)
  unfold wl okL; constructor <;> omega
theorem wr_id {x : Int} (h1 : -2147483648 ≤ x) (h2 : x < 2147483648) : wr x = x := Int.bmod_eq_of_le (by omega) (by omega)
theorem wl_id {x : Int} (h1 : -9223372036854775808 ≤ x) (h2 : x < 9223372036854775808) : wl x = x := Int.bmod_eq_of_le (by omega) (by omega)
theorem I_wr (x : Int) : Int32.ofInt (wr x) = Int32.ofInt x := by
  apply Int32.toInt_inj.mp
  rw [Int32.toInt_ofInt, Int32.toInt_ofInt]
  unfold wr
  exact Int.bmod_bmod
theorem L_wl (x : Int) : Int64.ofInt (wl x) = Int64.ofInt x := by
  apply Int64.toInt_inj.mp
  rw [Int64.toInt_ofInt, Int64.toInt_ofInt]
  unfold wl
  exact Int.bmod_bmod
theorem I_eq {x y : Int} (hx : okI x) (hy : okI y) : Int32.ofInt x = Int32.ofInt y ↔ x = y := ⟨fun h => by rw [← toI hx, ← toI hy, h], fun h => by rw [h]⟩
theorem I_lt {x y : Int} (hx : okI x) (hy : okI y) : Int32.ofInt x < Int32.ofInt y ↔ x < y := by rw [Int32.lt_iff_toInt_lt, toI hx, toI hy]
theorem I_le {x y : Int} (hx : okI x) (hy : okI y) : Int32.ofInt x ≤ Int32.ofInt y ↔ x ≤ y := by rw [Int32.le_iff_toInt_le, toI hx, toI hy]
theorem L_eq {x y : Int} (hx : okL x) (hy : okL y) : Int64.ofInt x = Int64.ofInt y ↔ x = y := ⟨fun h => by rw [← toL hx, ← toL hy, h], fun h => by rw [h]⟩
theorem L_lt {x y : Int} (hx : okL x) (hy : okL y) : Int64.ofInt x < Int64.ofInt y ↔ x < y := by rw [Int64.lt_iff_toInt_lt, toL hx, toL hy]
theorem okI_0 : okI 0 := ⟨by omega, by omega⟩
theorem I_clamp {x : Int} (h : okI x) : (Int32.ofInt x).toNatClampNeg = x.toNat := by
  show (Int32.ofInt x).toInt.toNat = x.toNat
  rw [toI h]
theorem I_in {x : Int} {n : Nat} (h : okI x) (h0 : 0 ≤ x) (hn : x < (n : Int)) : vp_in (Int32.ofInt x) n := by
  rw [vp_in_iff, toI h]
  exact ⟨h0, hn⟩
theorem I_div {x y : Int} (hx : okI x) (hy : okI y) : Int32.ofInt x / Int32.ofInt y = Int32.ofInt (wr (x.tdiv y)) := by
  apply Int32.toInt_inj.mp
  rw [Int32.toInt_div, toI hx, toI hy, toI (wr_ok _)]
  rfl
theorem tmod_ok {x y : Int} (hx : okI x) : okI (x.tmod y) := by
  unfold okI at *
  have h0 : (x.tmod y).natAbs ≤ x.natAbs := by rw [Int.natAbs_tmod]; exact Nat.mod_le _ _
  rcases Int.lt_or_le x 0 with h | h
  · have h1 := Int.tmod_nonneg y (show 0 ≤ -x by omega)
    rw [Int.neg_tmod] at h1
    omega
  · have h1 := Int.tmod_nonneg y h
    omega
theorem tmodL_ok {x y : Int} (hx : okL x) : okL (x.tmod y) := by
  unfold okL at *
  have h0 : (x.tmod y).natAbs ≤ x.natAbs := by rw [Int.natAbs_tmod]; exact Nat.mod_le _ _
  rcases Int.lt_or_le x 0 with h | h
  · have h1 := Int.tmod_nonneg y (show 0 ≤ -x by omega)
    rw [Int.neg_tmod] at h1
    omega
  · have h1 := Int.tmod_nonneg y h
    omega
theorem I_rem {x y : Int} (hx : okI x) (hy : okI y) : Int32.ofInt x - Int32.ofInt x / Int32.ofInt y * Int32.ofInt y = Int32.ofInt (x.tmod y) := by
  rw [I_div hx hy, I_wr, ← Int32.ofInt_mul, ← Int32.ofInt_sub]
  congr 1
  have := Int.tdiv_mul_add_tmod x y
  omega
theorem L_div {x y : Int} (hx : okL x) (hy : okL y) : Int64.ofInt x / Int64.ofInt y = Int64.ofInt (wl (x.tdiv y)) := by
  apply Int64.toInt_inj.mp
  rw [Int64.toInt_div, toL hx, toL hy, toL (wl_ok _)]
  rfl
theorem L_rem {x y : Int} (hx : okL x) (hy : okL y) : Int64.ofInt x - Int64.ofInt x / Int64.ofInt y * Int64.ofInt y = Int64.ofInt (x.tmod y) := by
  rw [L_div hx hy, L_wl, ← Int64.ofInt_mul, ← Int64.ofInt_sub]
  congr 1
  have := Int.tdiv_mul_add_tmod x y
  omega
theorem I_i2l {x : Int} (h : okI x) : (Int32.ofInt x).toInt64 = Int64.ofInt x := by
  apply Int64.toInt_inj.mp
  rw [Int32.toInt_toInt64, toI h, toL ⟨by have := h.1; omega, by have := h.2; omega⟩]
theorem I_cmp {x y : Int} (hx : okL x) (hy : okL y) : lg_cmp (Int64.ofInt x) (Int64.ofInt y) = Int32.ofInt (if y < x then 1 else if x = y then 0 else -1) := by
  unfold lg_cmp
  simp only [gt_iff_lt, L_lt hy hx, L_eq hx hy]
  split
  · rfl
  · split <;> rfl
theorem I_8 {v : Int} (h : -128 ≤ v ∧ v ≤ 127) : (Int8.ofInt v).toInt32 = Int32.ofInt v := by
  apply Int32.toInt_inj.mp
  rw [Int8.toInt_toInt32, Int8.toInt_ofInt_of_le (by omega) (by omega), toI ⟨by omega, by omega⟩]
theorem I_16 {v : Int} (h : -32768 ≤ v ∧ v ≤ 32767) : (Int16.ofInt v).toInt32 = Int32.ofInt v := by
  apply Int32.toInt_inj.mp
  rw [Int16.toInt_toInt32, Int16.toInt_ofInt_of_le (by omega) (by omega), toI ⟨by omega, by omega⟩]
theorem L_nat (n : Nat) : Int64.ofNat n = Int64.ofInt (n : Int) := (Int64.ofInt_eq_ofNat).symm
theorem I_nat (n : Nat) : Int32.ofNat n = Int32.ofInt (n : Int) := (Int32.ofInt_eq_ofNat).symm
/-! references and values -/
def okR (t r : Nat) : Prop := vld t r ∨ ((t = 30 ∨ t = 31) ∧ r < 8) ∨ (t = 32 ∧ r = 0) ∨ t = 33 ∨ t = 99
def okV : AV → Prop
  | .inl x => okI x
  | .inr (.inl (t, r)) => okR t r
  | .inr (.inr w) => okL w
def okS (σ : St) : Prop := ∀ t r k, okI (σ t r k)
def cvv (ad : Nat → Nat → Nat) (vF : Value) : AV → Value
  | .inl x => .int (Int32.ofInt x)
  | .inr (.inl (t, r)) => if t = 33 then vF else .ref (ad t r)
  | .inr (.inr w) => .long (Int64.ofInt w)
def okF (vF : Value) : Prop := vF = .null ∨ ∃ q, vF = .ref q
theorem cvv_cat {ad : Nat → Nat → Nat} {vF : Value} (hF : okF vF) (v : AV) : (cvv ad vF v).category = if isLg v = true then 2 else 1 := by
  rcases v with x | ⟨t, r⟩ | w
  · rfl
  · show (if t = 33 then vF else .ref (ad t r) : Value).category = 1
    split
    · rcases hF with h | ⟨q, h⟩ <;> rw [h] <;> rfl
    · rfl
  · rfl
theorem cvv_sum {ad : Nat → Nat → Nat} {vF : Value} (hF : okF vF) (st : List AV) : ((st.map (cvv ad vF)).map fun v => v.category).sum = catS st := by
  induction st with
  | nil => rfl
  | cons v l ih => rw [List.map_cons, List.map_cons, List.sum_cons, ih, cvv_cat hF]; rfl
/-! locals -/
def lvo (ad : Nat → Nat → Nat) (vF : Value) : Nat → List AV → List (Nat × Value)
  | _, [] => []
  | i, v :: l => if isU v = true then lvo ad vF (i + 1) l else (i, cvv ad vF v) :: lvo ad vF (i + 1) l
theorem lvo_mem {ad : Nat → Nat → Nat} {vF : Value} {q : Nat × Value} : ∀ {ls : List AV} {i : Nat}, q ∈ lvo ad vF i ls ↔ ∃ j v, ls[j]? = some v ∧ isU v = false ∧ q = (i + j, cvv ad vF v) := by
  intro ls
  induction ls with
  | nil => intro i; simp [lvo]
  | cons v l ih =>
    intro i
    unfold lvo
    constructor
    · intro h
      by_cases hu : isU v = true
      · rw [if_pos hu] at h
        obtain ⟨j, w, h1, h2, h3⟩ := ih.mp h
        exact ⟨j + 1, w, by simpa using h1, h2, by rw [h3]; congr 1; omega⟩
      · rw [if_neg hu] at h
        rcases List.mem_cons.mp h with h | h
        · exact ⟨0, v, rfl, by simpa using hu, h⟩
        · obtain ⟨j, w, h1, h2, h3⟩ := ih.mp h
          exact ⟨j + 1, w, by simpa using h1, h2, by rw [h3]; congr 1; omega⟩
    · rintro ⟨j, w, h1, h2, h3⟩
      cases j with
      | zero =>
        have e : v = w := by simpa using h1
        subst e
        rw [if_neg (by rw [h2]; decide), h3]
        exact List.mem_cons_self
      | succ j =>
        have hm : q ∈ lvo ad vF (i + 1) l := ih.mpr ⟨j, w, by simpa using h1, h2, by rw [h3]; congr 1; omega⟩
        split
        · exact hm
        · exact List.mem_cons_of_mem _ hm
def LR (ad : Nat → Nat → Nat) (vF : Value) (n : Nat) (ls : List AV) (lsM : Array Slot) : Prop := ls.length = n ∧ lv_has lsM n (lvo ad vF 0 ls)
theorem LR.at {ad : Nat → Nat → Nat} {vF : Value} {n : Nat} {ls : List AV} {lsM : Array Slot} (h : LR ad vF n ls lsM) {i : Nat} {v : AV} (hi : ls[i]? = some v) (hu : isU v = false) : lsM[i]? = some (.val (cvv ad vF v)) :=
  h.2.2.2 (i, cvv ad vF v) (lvo_mem.mpr ⟨i, v, hi, hu, by rw [Nat.zero_add]⟩)
theorem lv_mono {lsM : Array Slot} {n : Nat} {l l' : List (Nat × Value)} (h : lv_has lsM n l) (hm : ∀ q ∈ l', q ∈ l) : lv_has lsM n l' := ⟨h.1, h.2.1, fun q hq => h.2.2 q (hm q hq)⟩
theorem stl_len (ls : List AV) (i : Nat) (v : AV) : (stl ls i v).length = ls.length := by
  unfold stl
  split
  · simp
  · split <;> simp
theorem stl_get {ls : List AV} {i : Nat} {v w : AV} {j : Nat} (h : (stl ls i v)[j]? = some w) (hu : isU w = false) : (j = i ∧ w = v) ∨ (j ≠ i ∧ ls[j]? = some w ∧ ¬ (j + 1 = i ∧ isLg w = true)) := by
  unfold stl at h
  cases i with
  | zero =>
    simp only at h
    rw [List.getElem?_set] at h
    by_cases e : 0 = j
    · rw [if_pos e] at h
      split at h
      · left; exact ⟨e.symm, (Option.some.inj h).symm⟩
      · cases h
    · rw [if_neg e] at h
      right; exact ⟨fun q => e q.symm, h, fun q => by omega⟩
  | succ i =>
    simp only at h
    rw [List.getElem?_set] at h
    by_cases e : i + 1 = j
    · rw [if_pos e] at h
      by_cases z : i + 1 < (if isLg (ls.getD i uns) = true then ls.set i uns else ls).length
      · rw [if_pos z] at h
        left; exact ⟨e.symm, (Option.some.inj h).symm⟩
      · rw [if_neg z] at h
        cases h
    · rw [if_neg e] at h
      right
      refine ⟨fun q => e q.symm, ?_⟩
      by_cases hl : isLg (ls.getD i uns) = true
      · rw [if_pos hl, List.getElem?_set] at h
        by_cases e2 : i = j
        · rw [if_pos e2] at h
          split at h
          · have e3 := Option.some.inj h
            rw [← e3] at hu
            cases hu
          · cases h
        · rw [if_neg e2] at h
          exact ⟨h, fun q => by omega⟩
      · rw [if_neg hl] at h
        refine ⟨h, fun q => hl ?_⟩
        have e2 : i = j := by omega
        rw [e2, List.getD_eq_getElem?_getD, h]
        exact q.2
theorem LR.st1 {ad : Nat → Nat → Nat} {vF : Value} (hF : okF vF) {n : Nat} {ls : List AV} {lsM lsM' : Array Slot} (h : LR ad vF n ls lsM) {i : Nat} {v : AV} (hk : lv_has lsM' n ((i, cvv ad vF v) :: (lvo ad vF 0 ls).filter (fun q => !(q.1 == i) && !(q.1 + 1 == i && q.2.category == 2)))) : LR ad vF n (stl ls i v) lsM' := by
  refine ⟨(stl_len ls i v).trans h.1, lv_mono hk fun q hq => ?_⟩
  obtain ⟨j, w, h1, h2, h3⟩ := lvo_mem.mp hq
  rw [Nat.zero_add] at h3
  rcases stl_get h1 h2 with ⟨e1, e2⟩ | ⟨e1, e2, e3⟩
  · rw [h3, e1, e2]; exact List.mem_cons_self
  · refine List.mem_cons_of_mem _ (List.mem_filter.mpr ⟨lvo_mem.mpr ⟨j, w, e2, h2, by rw [h3, Nat.zero_add]⟩, ?_⟩)
    rw [h3]
    simp only [Bool.and_eq_true, Bool.not_eq_true', beq_eq_false_iff_ne, ne_eq, Bool.and_eq_false_iff]
    refine ⟨e1, ?_⟩
    by_cases q : j + 1 = i
    · right
      rw [cvv_cat hF]
      rw [if_neg (fun z => e3 ⟨q, z⟩)]
      decide
    · left; exact q
theorem LR.st2 {ad : Nat → Nat → Nat} {vF : Value} (hF : okF vF) {n : Nat} {ls : List AV} {lsM lsM' : Array Slot} (h : LR ad vF n ls lsM) {i : Nat} {v : AV} (hk : lv_has lsM' n ((i, cvv ad vF v) :: (lvo ad vF 0 ls).filter (fun q => !(q.1 == i) && (!(q.1 == i + 1) && !(q.1 + 1 == i && q.2.category == 2))))) : LR ad vF n ((stl ls i v).set (i + 1) uns) lsM' := by
  refine ⟨by rw [List.length_set]; exact (stl_len ls i v).trans h.1, lv_mono hk fun q hq => ?_⟩
  obtain ⟨j, w, h1, h2, h3⟩ := lvo_mem.mp hq
  rw [Nat.zero_add] at h3
  rw [List.getElem?_set] at h1
  by_cases ej : i + 1 = j
  · rw [if_pos ej] at h1
    split at h1
    · have e3 := Option.some.inj h1
      rw [← e3] at h2
      cases h2
    · cases h1
  · rw [if_neg ej] at h1
    rcases stl_get h1 h2 with ⟨e1, e2⟩ | ⟨e1, e2, e3⟩
    · rw [h3, e1, e2]; exact List.mem_cons_self
    · refine List.mem_cons_of_mem _ (List.mem_filter.mpr ⟨lvo_mem.mpr ⟨j, w, e2, h2, by rw [h3, Nat.zero_add]⟩, ?_⟩)
      rw [h3]
      simp only [Bool.and_eq_true, Bool.not_eq_true', beq_eq_false_iff_ne, ne_eq, Bool.and_eq_false_iff]
      refine ⟨e1, fun z => ej z.symm, ?_⟩
      by_cases q : j + 1 = i
      · right
        rw [cvv_cat hF]
        rw [if_neg (fun z => e3 ⟨q, z⟩)]
        decide
      · left; exact q
theorem stl_ok {ls : List AV} {i : Nat} {v : AV} (hl : ∀ w ∈ ls, okV w) (hv : okV v) : ∀ w ∈ stl ls i v, okV w := by
  have hu : okV uns := Or.inr (Or.inr (Or.inr (Or.inr rfl)))
  have hset : ∀ (l : List AV) (k : Nat) (x : AV), (∀ w ∈ l, okV w) → okV x → ∀ w ∈ l.set k x, okV w := fun l k x h1 h2 w hw => by
    rcases List.mem_or_eq_of_mem_set hw with h | h
    · exact h1 w h
    · rw [h]; exact h2
  unfold stl
  split
  · exact hset _ _ _ hl hv
  · split
    · exact hset _ _ _ (hset _ _ _ hl hu) hv
    · exact hset _ _ _ hl hv
theorem set_ok {ls : List AV} {i : Nat} (hl : ∀ w ∈ ls, okV w) : ∀ w ∈ ls.set i uns, okV w := fun w hw => by
  rcases List.mem_or_eq_of_mem_set hw with h | h
  · exact hl w h
  · rw [h]; exact Or.inr (Or.inr (Or.inr (Or.inr rfl)))
end
section
/-! the world: 44 cells -/
def celF (ad : Nat → Nat → Nat) (σ : St) (t r k : Nat) (sp : FD) : Value := match sp with
  | .inl _ => .int (Int32.ofInt (σ t r k))
  | .inr (t', rr) => .ref (ad t' (rr.getD r))
def cel (cA : ClassId) (ad : Nat → Nat → Nat) (σ : St) (t r : Nat) : va_E := if alen t = 0 then .inr (ocl t, (fds t).mapIdx (celF ad σ t r)) else .inl (cA, (alen t, .inl (fun j => Int32.ofInt (σ t r j))))
def wld (cA : ClassId) (ad : Nat → Nat → Nat) (σ : St) : va_W := wlst.map fun q => (ad q.1 q.2, cel cA ad σ q.1 q.2)
theorem wld_at {cA : ClassId} {ad : Nat → Nat → Nat} {σ : St} {t r : Nat} (h : vld t r) : (wld cA ad σ)[wpos t r]? = some (ad t r, cel cA ad σ t r) := by
  unfold wld
  rw [List.getElem?_map, h]
  rfl
theorem wpos_all : ∀ i, i < 44 → ∀ q, wlst[i]? = some q → wpos q.1 q.2 = i := by
  have h : (List.range 44).all (fun i => match wlst[i]? with | some q => wpos q.1 q.2 == i | none => true) = true := by decide +kernel
  intro i hi q hq
  have h1 := List.all_eq_true.mp h i (List.mem_range.mpr hi)
  rw [hq] at h1
  simpa using h1
theorem wlst_pos {i : Nat} {q : Nat × Nat} (hq : wlst[i]? = some q) : wpos q.1 q.2 = i := wpos_all i (by have := (List.getElem?_eq_some_iff.mp hq).1; exact this) q hq
theorem cel_congr {cA : ClassId} {ad : Nat → Nat → Nat} {σ σ' : St} {t r : Nat} (h : ∀ k, σ' t r k = σ t r k) : cel cA ad σ' t r = cel cA ad σ t r := by
  have e1 : celF ad σ' t r = celF ad σ t r := by
    funext k sp
    rcases sp with n | ⟨t', rr⟩
    · show Value.int _ = Value.int _; rw [h]
    · rfl
  have e2 : (fun j => Int32.ofInt (σ' t r j)) = fun j => Int32.ofInt (σ t r j) := by funext j; rw [h]
  unfold cel
  rw [e1, e2]
theorem wld_set {cA : ClassId} {ad : Nat → Nat → Nat} {σ σ' : St} {t r : Nat} (h : vld t r) (hσ : ∀ t' r', ¬ (t' = t ∧ r' = r) → ∀ k, σ' t' r' k = σ t' r' k) : (wld cA ad σ).set (wpos t r) (ad t r, cel cA ad σ' t r) = wld cA ad σ' := by
  refine List.ext_getElem? fun i => ?_
  rw [List.getElem?_set]
  have hl : wpos t r < (wld cA ad σ).length := by
    have := (List.getElem?_eq_some_iff.mp h).1
    unfold wld; rw [List.length_map]; exact this
  by_cases e : wpos t r = i
  · rw [if_pos e, if_pos (e ▸ hl), ← e, wld_at h]
  · rw [if_neg e]
    unfold wld
    rw [List.getElem?_map, List.getElem?_map]
    cases hq : wlst[i]? with
    | none => rfl
    | some q =>
      show some (ad q.1 q.2, cel cA ad σ q.1 q.2) = some (ad q.1 q.2, cel cA ad σ' q.1 q.2)
      rw [cel_congr (hσ q.1 q.2 fun z => e (by rw [← z.1, ← z.2]; exact wlst_pos hq))]
theorem vld_lt {t r : Nat} (h : vld t r) : t < 23 := by
  have h1 : wlst.all (fun q => Nat.blt q.1 23) = true := by decide +kernel
  have h2 := List.all_eq_true.mp h1 (t, r) (List.mem_of_getElem? h)
  exact Nat.le_of_ble_eq_true h2
/-- references out of fields are valid -/
theorem fd_vld {t r k t' : Nat} {rr : Option Nat} (h : vld t r) (hk : (fds t)[k]? = some (.inr (t', rr))) : vld t' (rr.getD r) := by
  have h1 : wlst.all (fun q => (fds q.1).all (fun sp => match sp with | .inl _ => true | .inr (t', rr) => decide (wlst[wpos t' (rr.getD q.2)]? = some (t', rr.getD q.2)))) = true := by decide +kernel
  have h2 := List.all_eq_true.mp h1 (t, r) (List.mem_of_getElem? h)
  have h3 := List.all_eq_true.mp h2 _ (List.mem_of_getElem? hk)
  have h4 : wlst[wpos t' (rr.getD r)]? = some (t', rr.getD r) := of_decide_eq_true h3
  exact h4
theorem fd_obj {t k : Nat} {sp : FD} (h : (fds t)[k]? = some sp) : alen t = 0 := by
  have h1 : ∀ t, t < 17 → ((fds t).isEmpty || alen t == 0) = true := by decide +kernel
  by_cases ht : t < 17
  · have h2 := h1 t ht
    cases e : fds t with
    | nil => rw [e] at h; cases h
    | cons a l => rw [e] at h2; simpa using h2
  · have e : fds t = [] := by
      unfold fds
      rw [List.getD_eq_getElem?_getD, List.getElem?_eq_none (by show fdT.length ≤ t; have : fdT.length = 17 := rfl; omega)]
      rfl
    rw [e] at h; cases h
theorem okR_obj {t r : Nat} (h : okR t r) (hk : ocl t < 5) : vld t r := by
  have hn : ∀ t, 23 ≤ t → ocl t = 9 := fun t ht => by
    unfold ocl
    rw [List.getD_eq_getElem?_getD, List.getElem?_eq_none (by have : ocT.length = 17 := rfl; omega)]
    rfl
  rcases h with h | h | h | h | h
  · exact h
  · rw [hn t (by omega)] at hk; omega
  · rw [hn t (by omega)] at hk; omega
  · rw [hn t (by omega)] at hk; omega
  · rw [hn t (by omega)] at hk; omega
theorem alen_big {t : Nat} (h : 23 ≤ t) : alen t = 0 := by
  unfold alen
  rw [List.getD_eq_getElem?_getD, List.getElem?_eq_none (by have : alT.length = 23 := rfl; omega)]
  rfl
theorem okR_arr {t r : Nat} (h : okR t r) (hk : alen t ≠ 0) : vld t r := by
  rcases h with h | h | h | h | h
  · exact h
  · exact absurd (alen_big (by omega)) hk
  · exact absurd (alen_big (by omega)) hk
  · exact absurd (alen_big (by omega)) hk
  · exact absurd (alen_big (by omega)) hk
theorem cel_arr {cA : ClassId} {ad : Nat → Nat → Nat} {σ : St} {t r : Nat} (h : alen t ≠ 0) : cel cA ad σ t r = .inl (cA, (alen t, .inl (fun j => Int32.ofInt (σ t r j)))) := by unfold cel; rw [if_neg h]
theorem cel_obj {cA : ClassId} {ad : Nat → Nat → Nat} {σ : St} {t r : Nat} (h : alen t = 0) : cel cA ad σ t r = .inr (ocl t, (fds t).mapIdx (celF ad σ t r)) := by unfold cel; rw [if_pos h]
theorem up_ne {σ : St} {t r k : Nat} {v : Int} : ∀ t' r', ¬ (t' = t ∧ r' = r) → ∀ j, up σ t r k v t' r' j = σ t' r' j := by
  intro t' r' h j
  unfold up
  rw [if_neg (fun z => h ⟨z.1, z.2.1⟩)]
theorem cpy_ne {σ : St} {t0 r0 sp t r dp n : Nat} : ∀ t' r', ¬ (t' = t ∧ r' = r) → ∀ j, cpy σ t0 r0 sp t r dp n t' r' j = σ t' r' j := by
  intro t' r' h j
  unfold cpy
  rw [if_neg (fun z => h ⟨z.1, z.2.1⟩)]
def strB32 : List (List Int32) := strB.map fun l => l.map Int32.ofInt
theorem strB32_at (i j : Nat) : (strB32.getD i []).getD j 0 = Int32.ofInt (sbyt i j) := by
  unfold strB32 sbyt
  rw [List.getD_eq_getElem?_getD, List.getD_eq_getElem?_getD (l := List.map _ _), List.getElem?_map, List.getD_eq_getElem?_getD, List.getD_eq_getElem?_getD (l := strB)]
  cases strB[i]? with
  | none => rfl
  | some l =>
    show (List.map Int32.ofInt l)[j]?.getD 0 = Int32.ofInt (l[j]?.getD 0)
    rw [List.getElem?_map]
    cases l[j]? with
    | none => rfl
    | some x => rfl
theorem sbyt_ok (i j : Nat) : okI (sbyt i j) := by
  have h1 : strB.all (fun l => l.all (fun x => decide (-2147483648 ≤ x ∧ x < 2147483648))) = true := by decide +kernel
  unfold sbyt
  rw [List.getD_eq_getElem?_getD, List.getD_eq_getElem?_getD]
  cases h2 : strB[i]? with
  | none => exact okI_0
  | some l =>
    show okI (l[j]?.getD 0)
    cases h3 : l[j]? with
    | none => exact okI_0
    | some x =>
      have h4 : -2147483648 ≤ x ∧ x < 2147483648 := of_decide_eq_true (List.all_eq_true.mp (List.all_eq_true.mp h1 l (List.mem_of_getElem? h2)) x (List.mem_of_getElem? h3))
      exact h4
theorem slen_ok : ∀ i, i < 8 → slen i < 100 := by decide +kernel
/-- what holds of the store behind the heap -/
def WP (D : va_G) (cA : ClassId) (ad : Nat → Nat → Nat) (L : Nat) (xs : Nat → Int32) (σ : St) (H : Heap) : Prop :=
  va_P D vwC (wld cA ad σ) H ∧ (∀ j : Nat, j < L → σ 32 0 j = (xs j).toInt) ∧ σ 32 1 0 = (L : Int) ∧ okS σ
/-- what is fixed while the machine runs -/
def Evn (D : va_G) (cA : ClassId) (ad : Nat → Nat → Nat) (vF : Value) (L : Nat) (xs : Nat → Int32) (A : Nat → Prop) (U : State) : Prop :=
  va_K D vwC [(cA, .int)] U ∧ vk_S 8 strL strB32 (ad 30) (ad 31) A U U.heap ∧ (∀ k, k < 8 → vk_R RX0 (strI.getD k 0) (strX.getD k "") (ad 30 k) U) ∧
  va_Z "java/lang/String" "COMPACT_STRINGS" "Z" (.int 1) A U U.heap ∧ va_Z "jdk/internal/util/Preconditions" "SIOOBE_FORMATTER" "Ljava/util/function/BiFunction;" vF A U U.heap ∧
  (∀ q ∈ nsT, va_Nw (.methodLinkNest (cN q.1) q.2.1 (mN q.2.2) RX4) U) ∧ va_X (ad 32 0) L xs U U.heap ∧ ad 32 0 < U.heap.size ∧ ¬ A (ad 32 0)
/-- the addresses -/
def AdOK (ad : Nat → Nat → Nat) (vF : Value) (L : Nat) : Prop := (∀ t r t' r', vld t r → vld t' r' → ad t r = ad t' r' → t = t' ∧ r = r') ∧ okF vF ∧ L ≤ 3072
def AdIn (ad : Nat → Nat → Nat) (A : Nat → Prop) : Prop := ∀ t r, vld t r → A (ad t r)
/-- the world's own cells -/
def Aw (ad : Nat → Nat → Nat) : Nat → Prop := fun q => ∃ t r, vld t r ∧ q = ad t r
theorem AdIn.self {ad : Nat → Nat → Nat} : AdIn ad (Aw ad) := fun t r h => ⟨t, r, h, rfl⟩
theorem AdIn.le {ad : Nat → Nat → Nat} {A : Nat → Prop} (h : AdIn ad A) : ∀ q, Aw ad q → A q := fun q ⟨t, r, h1, h2⟩ => h2 ▸ h t r h1
theorem wld_D {cA : ClassId} {ad : Nat → Nat → Nat} {vF : Value} {L : Nat} {A : Nat → Prop} (O : AdOK ad vF L) (hA : AdIn ad A) (σ : St) : va_D A (wld cA ad σ) := by
  have key : ∀ (i : Nat) (p : Nat × va_E), (wld cA ad σ)[i]? = some p → ∃ q, wlst[i]? = some q ∧ p.1 = ad q.1 q.2 := by
    intro i p hp
    unfold wld at hp
    rw [List.getElem?_map] at hp
    cases hq : wlst[i]? with
    | none => rw [hq] at hp; cases hp
    | some q => rw [hq] at hp; cases hp; exact ⟨q, rfl, rfl⟩
  have vl : ∀ {i : Nat} {q : Nat × Nat}, wlst[i]? = some q → vld q.1 q.2 := fun {i q} hq => by
    unfold vld; rw [wlst_pos hq]; exact hq
  refine ⟨fun i j p q hp hq e => ?_, fun k q hq => ?_⟩
  · obtain ⟨a, ha, ea⟩ := key i p hp
    obtain ⟨b, hb, eb⟩ := key j q hq
    obtain ⟨e1, e2⟩ := O.1 a.1 a.2 b.1 b.2 (vl ha) (vl hb) (by rw [← ea, ← eb, e])
    rw [← wlst_pos ha, ← wlst_pos hb, e1, e2]
  · obtain ⟨a, ha, ea⟩ := key k q hq
    rw [ea]
    exact hA _ _ (vl ha)
theorem Evn.move {D : va_G} {cA : ClassId} {ad : Nat → Nat → Nat} {vF : Value} {L : Nat} {xs : Nat → Int32} {A B : Nat → Prop} {s U : State} (h : Evn D cA ad vF L xs A s) (hW : s.WarmedH U.vm) (hz : s.heap.size ≤ U.heap.size) (hq : ∀ q : Nat, q < s.heap.size → ¬ A q → U.heap[q]? = s.heap[q]?) (hB : ∀ q, B q → A q) : Evn D cA ad vF L xs B U := by
  obtain ⟨h1, h2, h3, h4, h5, h6, h7, h8, h9⟩ := h
  exact ⟨h1.moved hW.alike, (h2.kept hq).moved hW.alike |>.narrow hB, fun k hk => (h3 k hk).warm hW, ((h4.kept hq).moved hW.alike).narrow hB, ((h5.kept hq).moved hW.alike).narrow hB,
    fun q hm => va_Nw.warmM hW (h6 q hm), (h7.kept (hq _ h8 h9)).moved hW.alike, Nat.lt_of_lt_of_le h8 hz, fun z => h9 (hB _ z)⟩
theorem Evn.calling {D : va_G} {cA : ClassId} {ad : Nat → Nat → Nat} {vF : Value} {L : Nat} {xs : Nat → Int32} {A : Nat → Prop} {U : State} (a : Array Value) (g : JFrame) (mk : MethodId) (h : Evn D cA ad vF L xs A U) : Evn D cA ad vF L xs A (U.calling g mk a) := by
  obtain ⟨h1, h2, h3, h4, h5, h6, h7, h8, h9⟩ := h
  have al : U.vm.Alike (U.calling g mk a).vm := Vm.Alike.refl U.vm
  exact ⟨h1.moved al, h2.moved al, fun k hk => vk_R.same (u := U) rfl (h3 k hk), h4.moved al, h5.moved al, fun q hm => va_Nw.same rfl (u := U) rfl (h6 q hm), h7.moved al, h8, h9⟩
end
section
def il : Instr → Nat
  | .iconst _ => 1 | .bipush _ => 2 | .sipush _ => 3 | .lconst _ => 1
  | .iload _ => 2 | .iload_n _ => 1 | .aload _ => 2 | .aload_n _ => 1 | .lload _ => 2 | .lload_n _ => 1
  | .istore _ => 2 | .istore_n _ => 1 | .astore _ => 2 | .astore_n _ => 1 | .lstore _ => 2 | .lstore_n _ => 1
  | .iinc _ _ => 3 | .dup => 1 | .dup2 => 1 | .pop => 1
  | .iadd => 1 | .isub => 1 | .imul => 1 | .idiv => 1 | .irem => 1 | .iand => 1 | .ior => 1 | .ixor => 1 | .ishl => 1 | .ishr => 1 | .iushr => 1
  | .ladd => 1 | .lsub => 1 | .lmul => 1 | .ldiv => 1 | .lrem => 1 | .ineg => 1 | .i2b => 1 | .i2c => 1 | .i2l => 1 | .lcmp => 1
  | .goto _ => 3 | .ifCond _ _ => 3 | .if_icmp _ _ => 3
  | .getfield _ => 3 | .putfield _ => 3 | .iaload => 1 | .iastore => 1 | .baload => 1 | .arraylength => 1 | .getstatic _ => 3
  | .ldc _ => 2 | .ldc_w _ => 3 | .ldc2_w _ => 3 | .invokestatic _ => 3 | .invokevirtual _ => 3
  | .ireturn => 1 | .lreturn => 1 | .areturn => 1 | .return_ => 1
  | _ => 0
set_option maxRecDepth 100000 in
theorem il_all : mT.all (fun q => q.2.2.2.all (fun x => il x.2.1 == 0 || il x.2.1 == x.2.2)) = true := by decide +kernel
theorem len_c (q : MT) (h1 : q.2.2.2.all (fun x => il x.2.1 == 0 || il x.2.1 == x.2.2) = true) {pc n : Nat} {i : Instr} (h : q.2.2.2.lookup pc = some (i, n)) : il i = 0 ∨ il i = n := by
  have h3 := List.all_eq_true.mp h1 (pc, (i, n)) (lookup_in _ h)
  simpa using h3
theorem len_ok {y pc n : Nat} {i : Instr} (h : fetch y pc = some (i, n)) : il i = 0 ∨ il i = n := by
  unfold fetch at h
  have hm : mR y ∈ mT ∨ mR y = mD := by
    unfold mR
    by_cases hy : y < mT.length
    · left; rw [List.getD_eq_getElem?_getD, List.getElem?_eq_getElem hy]; exact List.getElem_mem hy
    · right; rw [List.getD_eq_getElem?_getD, List.getElem?_eq_none (Nat.le_of_not_lt hy)]; rfl
  rcases hm with hm | hm
  · exact len_c (mR y) (List.all_eq_true.mp il_all _ hm) h
  · unfold mTb at h; rw [hm] at h; cases h
/-- what a method's walk knows -/
def Cx (p : Program) (s : State) (m : MethodId) (args : Array Value) (c : Code) (y : Nat) : Prop :=
  p.tables.exec = Jvm.exec ∧ c.code = mB y ∧ c.maxLocals = mL y ∧ s.vm.findClass (cN (mC y)) = some m.cls ∧ (∀ w ∈ lwg, w.before args s = true)
/-- from every heap that holds the store: the machine comes to a state with Q -/
def Wk (p : Program) (l : Launch) (e : Env) (R : Room) (s : State) (m : MethodId) (args : Array Value) (below : List Frame) (meth : Method) (c : Code) (cells slots : Nat) (Q : State → Prop) (D : va_G) (cA : ClassId) (ad : Nat → Nat → Nat) (vF : Value) (L : Nat) (xs : Nat → Int32) (A : Nat → Prop) (y : Nat) (pc : Nat) (ls st : List AV) (σ : St) : Prop :=
  ∀ (H : Heap) (locs : List Loc) (lsM : Array Slot), LR ad vF (mL y) ls lsM → (∀ v ∈ ls, okV v) → (∀ v ∈ st, okV v) → WP D cA ad L xs σ H → va_S A s.heap H locs → W p l e R s m args below meth c H locs cells slots Q (F0 m pc lsM (st.map (cvv ad vF)))
theorem cvv_r {ad : Nat → Nat → Nat} {vF : Value} {t r : Nat} (h : ¬ t = 33) : cvv ad vF (.inr (.inl (t, r))) = .ref (ad t r) := if_neg h
theorem brn_spec {b : Bool} {pc : Nat} {off : Int} {q : Nat} (h : brn b pc off = some q) : ∃ t : Nat, (pc : Int) + off = (t : Int) ∧ q = if b = true then t else pc + 3 := by
  unfold brn tgt at h
  by_cases h0 : 0 ≤ (pc : Int) + off
  · rw [if_pos h0] at h
    exact ⟨((pc : Int) + off).toNat, by omega, (Option.some.inj h).symm⟩
  · rw [if_neg h0] at h; cases h
theorem tgt_spec {pc : Nat} {off : Int} {q : Nat} (h : tgt pc off = some q) : (pc : Int) + off = (q : Int) := by
  unfold tgt at h
  by_cases h0 : 0 ≤ (pc : Int) + off
  · rw [if_pos h0] at h
    have := Option.some.inj h
    omega
  · rw [if_neg h0] at h; cases h
theorem okV2 {v w : AV} {st : List AV} (h : ∀ u ∈ v :: w :: st, okV u) : okV v ∧ okV w ∧ ∀ u ∈ st, okV u := ⟨h _ List.mem_cons_self, h _ (List.mem_cons_of_mem _ List.mem_cons_self), fun u hu => h u (List.mem_cons_of_mem _ (List.mem_cons_of_mem _ hu))⟩
theorem okV1 {v : AV} {st : List AV} (h : ∀ u ∈ v :: st, okV u) : okV v ∧ ∀ u ∈ st, okV u := ⟨h _ List.mem_cons_self, fun u hu => h u (List.mem_cons_of_mem _ hu)⟩
theorem okVc {v : AV} {st : List AV} (h1 : okV v) (h2 : ∀ u ∈ st, okV u) : ∀ u ∈ v :: st, okV u := List.forall_mem_cons.mpr ⟨h1, h2⟩
theorem il1 {a n : Nat} (h : a = 0 ∨ a = n) (h0 : a ≠ 0) : n = a := by omega
theorem I_0 : (0 : Int32) = Int32.ofInt 0 := by decide
theorem I_31 : ∀ y : Int, True := fun _ => trivial
section STEP
variable {p : Program} {l : Launch} {e : Env} {R : Room} {s : State} {m : MethodId} {args : Array Value} {below : List Frame} {meth : Method} {c : Code} {cells slots : Nat} {Q : State → Prop}
variable {D : va_G} {cA : ClassId} {ad : Nat → Nat → Nat} {vF : Value} {L : Nat} {xs : Nat → Int32} {A : Nat → Prop} {y : Nat} {pc n : Nat} {ls st : List AV} {σ : St} {pc' : Nat} {ls' st' : List AV} {σ' : St}
/-- loads of a local -/
theorem sk_ld (C : Cx p s m args c y) (O : AdOK ad vF L) {i : Instr} (hf : fetch y pc = some (i, n)) (hi : (∃ j, i = .iload j) ∨ (∃ j, i = .iload_n j) ∨ (∃ j, i = .aload j) ∨ (∃ j, i = .aload_n j) ∨ (∃ j, i = .lload j) ∨ (∃ j, i = .lload_n j))
    (ha : aStep y i n pc ls st σ = some (pc', (ls', (st', σ')))) (k : Wk p l e R s m args below meth c cells slots Q D cA ad vF L xs A y pc' ls' st' σ') : Wk p l e R s m args below meth c cells slots Q D cA ad vF L xs A y pc ls st σ := by
  intro H locs lsM hL hl hs hW hS
  obtain ⟨hx, hb, hml, hown, hts⟩ := C
  have hd := fetch_ok hf
  have hn := len_ok hf
  rcases hi with ⟨j, rfl⟩ | ⟨j, rfl⟩ | ⟨j, rfl⟩ | ⟨j, rfl⟩ | ⟨j, rfl⟩ | ⟨j, rfl⟩
  · obtain rfl := il1 hn (Nat.succ_ne_zero _)
    simp only [aStep, ldv] at ha
    split at ha
    · rename_i x he
      cases ha
      exact lv_iload hx hb hd (hL.at he rfl) (k H locs lsM hL hl (okVc (hl _ (List.mem_of_getElem? he)) hs) hW hS)
    · simp at ha
    · simp at ha
    · cases ha
  · obtain rfl := il1 hn (Nat.succ_ne_zero _)
    simp only [aStep, ldv] at ha
    split at ha
    · rename_i x he
      cases ha
      exact lv_iload_n hx hb hd rfl (hL.at he rfl) (k H locs lsM hL hl (okVc (hl _ (List.mem_of_getElem? he)) hs) hW hS)
    · simp at ha
    · simp at ha
    · cases ha
  · obtain rfl := il1 hn (Nat.succ_ne_zero _)
    simp only [aStep, ldv] at ha
    split at ha
    · simp at ha
    · rename_i t r he
      by_cases h9 : t = 99
      · subst h9; simp at ha
      by_cases h3 : t = 33
      · subst h3; simp at ha
      rw [if_pos (by simp [h9, h3])] at ha
      cases ha
      have kk := k H locs lsM hL hl (okVc (hl _ (List.mem_of_getElem? he)) hs) hW hS
      have h1 := hL.at he (by simp [isU, h9])
      rw [List.map_cons, cvv_r h3] at kk
      rw [cvv_r h3] at h1
      exact lv_aload hx hb hd h1 kk
    · simp at ha
    · cases ha
  · obtain rfl := il1 hn (Nat.succ_ne_zero _)
    simp only [aStep, ldv] at ha
    split at ha
    · simp at ha
    · rename_i t r he
      by_cases h9 : t = 99
      · subst h9; simp at ha
      by_cases h3 : t = 33
      · subst h3; simp at ha
      rw [if_pos (by simp [h9, h3])] at ha
      cases ha
      have kk := k H locs lsM hL hl (okVc (hl _ (List.mem_of_getElem? he)) hs) hW hS
      have h1 := hL.at he (by simp [isU, h9])
      rw [List.map_cons, cvv_r h3] at kk
      rw [cvv_r h3] at h1
      exact lv_aload_n hx hb hd rfl h1 kk
    · simp at ha
    · cases ha
  · obtain rfl := il1 hn (Nat.succ_ne_zero _)
    simp only [aStep, ldv] at ha
    split at ha
    · simp at ha
    · simp at ha
    · rename_i x he
      cases ha
      exact lv_lload hx hb hd (hL.at he rfl) (k H locs lsM hL hl (okVc (hl _ (List.mem_of_getElem? he)) hs) hW hS)
    · cases ha
  · obtain rfl := il1 hn (Nat.succ_ne_zero _)
    simp only [aStep, ldv] at ha
    split at ha
    · simp at ha
    · simp at ha
    · rename_i x he
      cases ha
      exact lv_lload_n hx hb hd rfl (hL.at he rfl) (k H locs lsM hL hl (okVc (hl _ (List.mem_of_getElem? he)) hs) hW hS)
    · cases ha
/-- stores into a local -/
theorem sk_st (C : Cx p s m args c y) (O : AdOK ad vF L) {i : Instr} (hf : fetch y pc = some (i, n)) (hi : (∃ j, i = .istore j) ∨ (∃ j, i = .istore_n j) ∨ (∃ j, i = .astore j) ∨ (∃ j, i = .astore_n j) ∨ (∃ j, i = .lstore j) ∨ (∃ j, i = .lstore_n j) ∨ (∃ j v, i = .iinc j v))
    (ha : aStep y i n pc ls st σ = some (pc', (ls', (st', σ')))) (k : Wk p l e R s m args below meth c cells slots Q D cA ad vF L xs A y pc' ls' st' σ') : Wk p l e R s m args below meth c cells slots Q D cA ad vF L xs A y pc ls st σ := by
  intro H locs lsM hL hl hs hW hS
  obtain ⟨hx, hb, hml, hown, hts⟩ := C
  have hd := fetch_ok hf
  have hn := len_ok hf
  rcases hi with ⟨j, rfl⟩ | ⟨j, rfl⟩ | ⟨j, rfl⟩ | ⟨j, rfl⟩ | ⟨j, rfl⟩ | ⟨j, rfl⟩ | ⟨j, v, rfl⟩
  · obtain rfl := il1 hn (Nat.succ_ne_zero _)
    simp only [aStep, stv] at ha
    split at ha
    · rename_i x st0
      split at ha
      · rename_i hj
        cases ha
        have hj2 : j < mL y := by rw [← hL.1]; simpa using hj
        obtain ⟨h1, h2⟩ := okV1 hs
        exact lv_istore hx hb hd hL.2 hj2 rfl (fun ls2 g => k H locs ls2 (hL.st1 O.2.1 (v := .inl x) g) (stl_ok hl h1) h2 hW hS)
      · cases ha
    · simp at ha
    · simp at ha
    · cases ha
  · obtain rfl := il1 hn (Nat.succ_ne_zero _)
    simp only [aStep, stv] at ha
    split at ha
    · rename_i x st0
      split at ha
      · rename_i hj
        cases ha
        have hj2 : (j : Nat) < mL y := by rw [← hL.1]; simpa using hj
        obtain ⟨h1, h2⟩ := okV1 hs
        exact lv_istore_n hx hb hd rfl hL.2 hj2 rfl (fun ls2 g => k H locs ls2 (hL.st1 O.2.1 (v := .inl x) g) (stl_ok hl h1) h2 hW hS)
      · cases ha
    · simp at ha
    · simp at ha
    · cases ha
  · obtain rfl := il1 hn (Nat.succ_ne_zero _)
    simp only [aStep, stv] at ha
    split at ha
    · simp at ha
    · rename_i t r st0
      by_cases h3 : t = 33
      · subst h3; simp at ha
      split at ha
      · rename_i hj
        cases ha
        have hj2 : j < mL y := by rw [← hL.1]; simp at hj; exact hj.2
        obtain ⟨h1, h2⟩ := okV1 hs
        rw [List.map_cons, cvv_r h3]
        exact lv_astore hx hb hd hL.2 hj2 rfl (fun ls2 g => k H locs ls2 (hL.st1 O.2.1 (v := .inr (.inl (t, r))) (by rw [cvv_r h3]; exact g)) (stl_ok hl h1) h2 hW hS)
      · cases ha
    · simp at ha
    · cases ha
  · obtain rfl := il1 hn (Nat.succ_ne_zero _)
    simp only [aStep, stv] at ha
    split at ha
    · simp at ha
    · rename_i t r st0
      by_cases h3 : t = 33
      · subst h3; simp at ha
      split at ha
      · rename_i hj
        cases ha
        have hj2 : (j : Nat) < mL y := by rw [← hL.1]; simp at hj; exact hj.2
        obtain ⟨h1, h2⟩ := okV1 hs
        rw [List.map_cons, cvv_r h3]
        exact lv_astore_n hx hb hd rfl hL.2 hj2 rfl (fun ls2 g => k H locs ls2 (hL.st1 O.2.1 (v := .inr (.inl (t, r))) (by rw [cvv_r h3]; exact g)) (stl_ok hl h1) h2 hW hS)
      · cases ha
    · simp at ha
    · cases ha
  · obtain rfl := il1 hn (Nat.succ_ne_zero _)
    simp only [aStep, stv] at ha
    split at ha
    · simp at ha
    · simp at ha
    · rename_i x st0
      split at ha
      · rename_i hj
        cases ha
        have hj2 : j + 1 < mL y := by rw [← hL.1]; simpa using hj
        obtain ⟨h1, h2⟩ := okV1 hs
        exact lv_lstore hx hb hd hL.2 hj2 rfl (fun ls2 g => k H locs ls2 (hL.st2 O.2.1 (v := .inr (.inr x)) g) (set_ok (stl_ok hl h1)) h2 hW hS)
      · cases ha
    · cases ha
  · obtain rfl := il1 hn (Nat.succ_ne_zero _)
    simp only [aStep, stv] at ha
    split at ha
    · simp at ha
    · simp at ha
    · rename_i x st0
      split at ha
      · rename_i hj
        cases ha
        have hj2 : (j : Nat) + 1 < mL y := by rw [← hL.1]; simpa using hj
        obtain ⟨h1, h2⟩ := okV1 hs
        exact lv_lstore_n hx hb hd rfl hL.2 hj2 rfl (fun ls2 g => k H locs ls2 (hL.st2 O.2.1 (v := .inr (.inr x)) g) (set_ok (stl_ok hl h1)) h2 hW hS)
      · cases ha
    · cases ha
  · obtain rfl := il1 hn (Nat.succ_ne_zero _)
    simp only [aStep] at ha
    split at ha
    · rename_i x he
      cases ha
      have hm : (j, Value.int (Int32.ofInt x)) ∈ lvo ad vF 0 ls := lvo_mem.mpr ⟨j, .inl x, he, rfl, by rw [Nat.zero_add]; rfl⟩
      obtain ⟨q, hq⟩ := List.mem_iff_getElem?.mp hm
      have hj2 : j < mL y := by rw [← hL.1]; exact (List.getElem?_eq_some_iff.mp he).1
      exact lv_iinc hx hb hd hL.2 hq (v := Int32.ofInt (wr (x + v))) (by rw [I_wr, Int32.ofInt_add]) hj2 rfl (fun ls2 g => k H locs ls2 (hL.st1 O.2.1 (v := .inl (wr (x + v))) g) (stl_ok hl (wr_ok _)) hs hW hS)
    · cases ha
end STEP
end
section
section STEP2
variable {p : Program} {l : Launch} {e : Env} {R : Room} {s : State} {m : MethodId} {args : Array Value} {below : List Frame} {meth : Method} {c : Code} {cells slots : Nat} {Q : State → Prop}
variable {D : va_G} {cA : ClassId} {ad : Nat → Nat → Nat} {vF : Value} {L : Nat} {xs : Nat → Int32} {A : Nat → Prop} {y : Nat} {pc n : Nat} {ls st : List AV} {σ : St} {pc' : Nat} {ls' st' : List AV} {σ' : St}

theorem sk_const (C : Cx p s m args c y) (O : AdOK ad vF L) {i : Instr} (hf : fetch y pc = some (i, n)) (hi : (∃ v, i = .iconst v) ∨ (∃ v, i = .bipush v) ∨ (∃ v, i = .sipush v) ∨ (∃ v, i = .lconst v))
    (ha : aStep y i n pc ls st σ = some (pc', (ls', (st', σ')))) (k : Wk p l e R s m args below meth c cells slots Q D cA ad vF L xs A y pc' ls' st' σ') : Wk p l e R s m args below meth c cells slots Q D cA ad vF L xs A y pc ls st σ := by
  intro H locs lsM hL hl hs hW hS
  obtain ⟨hx, hb, hml, hown, hts⟩ := C
  have hd := fetch_ok hf
  have hn := len_ok hf
  rcases hi with ⟨v, rfl⟩ | ⟨v, rfl⟩ | ⟨v, rfl⟩ | ⟨v, rfl⟩
  · obtain rfl := il1 hn (Nat.succ_ne_zero _)
    simp only [aStep] at ha
    split at ha
    · rename_i h
      cases ha
      exact lv_iconst hx hb hd rfl (k H locs lsM hL hl (okVc ⟨by omega, by omega⟩ hs) hW hS)
    · cases ha
  · obtain rfl := il1 hn (Nat.succ_ne_zero _)
    simp only [aStep] at ha
    split at ha
    · rename_i h
      cases ha
      exact lv_bipush hx hb hd (I_8 h) (k H locs lsM hL hl (okVc ⟨by omega, by omega⟩ hs) hW hS)
    · cases ha
  · obtain rfl := il1 hn (Nat.succ_ne_zero _)
    simp only [aStep] at ha
    split at ha
    · rename_i h
      cases ha
      exact lv_sipush hx hb hd (I_16 h) (k H locs lsM hL hl (okVc ⟨by omega, by omega⟩ hs) hW hS)
    · cases ha
  · obtain rfl := il1 hn (Nat.succ_ne_zero _)
    simp only [aStep] at ha
    cases ha
    have hv := v.isLt
    exact lv_lconst hx hb hd (L_nat _) (k H locs lsM hL hl (okVc (v := .inr (.inr ((v : Nat) : Int))) ⟨by omega, by omega⟩ hs) hW hS)
theorem sk_stk (C : Cx p s m args c y) (O : AdOK ad vF L) {i : Instr} (hf : fetch y pc = some (i, n)) (hi : i = .dup ∨ i = .dup2 ∨ i = .pop)
    (ha : aStep y i n pc ls st σ = some (pc', (ls', (st', σ')))) (k : Wk p l e R s m args below meth c cells slots Q D cA ad vF L xs A y pc' ls' st' σ') : Wk p l e R s m args below meth c cells slots Q D cA ad vF L xs A y pc ls st σ := by
  intro H locs lsM hL hl hs hW hS
  obtain ⟨hx, hb, hml, hown, hts⟩ := C
  have hd := fetch_ok hf
  have hn := len_ok hf
  rcases hi with rfl | rfl | rfl
  · obtain rfl := il1 hn (Nat.succ_ne_zero _)
    simp only [aStep] at ha
    split at ha
    · rename_i v st0
      split at ha
      · cases ha
      · rename_i hv
        cases ha
        obtain ⟨h1, h2⟩ := okV1 hs
        exact lv_dup hx hb hd (by rw [cvv_cat O.2.1, if_neg hv]) (k H locs lsM hL hl (okVc h1 hs) hW hS)
    · cases ha
  · obtain rfl := il1 hn (Nat.succ_ne_zero _)
    simp only [aStep] at ha
    split at ha
    · rename_i a0 b0 st0
      split at ha
      · cases ha
      · rename_i hv
        cases ha
        obtain ⟨h1, h2, h3⟩ := okV2 hs
        simp only [Bool.or_eq_true, not_or] at hv
        exact lv_dup2_11 hx hb hd (by rw [cvv_cat O.2.1, if_neg hv.1]) (by rw [cvv_cat O.2.1, if_neg hv.2]) (k H locs lsM hL hl (okVc h1 (okVc h2 hs)) hW hS)
    · cases ha
  · obtain rfl := il1 hn (Nat.succ_ne_zero _)
    simp only [aStep] at ha
    split at ha
    · rename_i v st0
      split at ha
      · cases ha
      · rename_i hv
        cases ha
        obtain ⟨h1, h2⟩ := okV1 hs
        exact lv_pop hx hb hd (by rw [cvv_cat O.2.1, if_neg hv]) (k H locs lsM hL hl h2 hW hS)
    · cases ha
theorem sk_bin (C : Cx p s m args c y) (O : AdOK ad vF L) {i : Instr} (hf : fetch y pc = some (i, n)) (hi : i = .iadd ∨ i = .isub ∨ i = .imul ∨ i = .idiv ∨ i = .irem ∨ i = .iand ∨ i = .ior ∨ i = .ixor ∨ i = .ishl ∨ i = .ishr ∨ i = .iushr)
    (ha : aStep y i n pc ls st σ = some (pc', (ls', (st', σ')))) (k : Wk p l e R s m args below meth c cells slots Q D cA ad vF L xs A y pc' ls' st' σ') : Wk p l e R s m args below meth c cells slots Q D cA ad vF L xs A y pc ls st σ := by
  intro H locs lsM hL hl hs hW hS
  obtain ⟨hx, hb, hml, hown, hts⟩ := C
  have hd := fetch_ok hf
  have hn := len_ok hf
  rcases hi with rfl | rfl | rfl | rfl | rfl | rfl | rfl | rfl | rfl | rfl | rfl
  · obtain rfl := il1 hn (Nat.succ_ne_zero _)
    simp only [aStep, binI, binL] at ha
    split at ha
    · rename_i y0 x0 st0
      cases ha
      obtain ⟨h1, h2, h3⟩ := okV2 hs
      have kk := k H locs lsM hL hl (okVc (wr_ok _) h3) hW hS
      rw [List.map_cons, show cvv ad vF (.inl (wr (x0 + y0))) = .int (Int32.ofInt x0 + Int32.ofInt y0) from congrArg Value.int (by rw [I_wr, Int32.ofInt_add])] at kk
      exact lv_iadd hx hb hd kk
    · simp at ha
    · cases ha
  · obtain rfl := il1 hn (Nat.succ_ne_zero _)
    simp only [aStep, binI, binL] at ha
    split at ha
    · rename_i y0 x0 st0
      cases ha
      obtain ⟨h1, h2, h3⟩ := okV2 hs
      have kk := k H locs lsM hL hl (okVc (wr_ok _) h3) hW hS
      rw [List.map_cons, show cvv ad vF (.inl (wr (x0 - y0))) = .int (Int32.ofInt x0 - Int32.ofInt y0) from congrArg Value.int (by rw [I_wr, Int32.ofInt_sub])] at kk
      exact lv_isub hx hb hd kk
    · simp at ha
    · cases ha
  · obtain rfl := il1 hn (Nat.succ_ne_zero _)
    simp only [aStep, binI, binL] at ha
    split at ha
    · rename_i y0 x0 st0
      cases ha
      obtain ⟨h1, h2, h3⟩ := okV2 hs
      have kk := k H locs lsM hL hl (okVc (wr_ok _) h3) hW hS
      rw [List.map_cons, show cvv ad vF (.inl (wr (x0 * y0))) = .int (Int32.ofInt x0 * Int32.ofInt y0) from congrArg Value.int (by rw [I_wr, Int32.ofInt_mul])] at kk
      exact lv_imul hx hb hd kk
    · simp at ha
    · cases ha
  · obtain rfl := il1 hn (Nat.succ_ne_zero _)
    simp only [aStep, binI, binL] at ha
    split at ha
    · rename_i y0 x0 st0
      split at ha
      · rename_i z0 hz
        split at hz
        · cases hz
        · rename_i hy0
          cases hz
          cases ha
          obtain ⟨h1, h2, h3⟩ := okV2 hs
          have kk := k H locs lsM hL hl (okVc (wr_ok _) h3) hW hS
          rw [List.map_cons, show cvv ad vF (.inl (wr (x0.tdiv y0))) = .int (Int32.ofInt x0 / Int32.ofInt y0) from congrArg Value.int ((I_div h2 h1).symm)] at kk
          exact lv_idiv hx hb hd (fun z => hy0 ((I_eq h1 okI_0).mp (z.trans I_0))) kk
      · cases ha
    · simp at ha
    · cases ha
  · obtain rfl := il1 hn (Nat.succ_ne_zero _)
    simp only [aStep, binI, binL] at ha
    split at ha
    · rename_i y0 x0 st0
      split at ha
      · rename_i z0 hz
        split at hz
        · cases hz
        · rename_i hy0
          cases hz
          cases ha
          obtain ⟨h1, h2, h3⟩ := okV2 hs
          have kk := k H locs lsM hL hl (okVc (tmod_ok h2) h3) hW hS
          rw [List.map_cons, show cvv ad vF (.inl (x0.tmod y0)) = .int (Int32.ofInt x0 - Int32.ofInt x0 / Int32.ofInt y0 * Int32.ofInt y0) from congrArg Value.int ((I_rem h2 h1).symm)] at kk
          exact lv_irem hx hb hd (fun z => hy0 ((I_eq h1 okI_0).mp (z.trans I_0))) kk
      · cases ha
    · simp at ha
    · cases ha
  · obtain rfl := il1 hn (Nat.succ_ne_zero _)
    simp only [aStep, binI, binL] at ha
    split at ha
    · rename_i y0 x0 st0
      cases ha
      obtain ⟨h1, h2, h3⟩ := okV2 hs
      have kk := k H locs lsM hL hl (okVc (okI_to _) h3) hW hS
      rw [List.map_cons, show cvv ad vF (.inl ((Int32.ofInt x0 &&& Int32.ofInt y0).toInt)) = .int (Int32.ofInt x0 &&& Int32.ofInt y0) from congrArg Value.int (Int32.ofInt_toInt _)] at kk
      exact lv_iand hx hb hd kk
    · simp at ha
    · cases ha
  · obtain rfl := il1 hn (Nat.succ_ne_zero _)
    simp only [aStep, binI, binL] at ha
    split at ha
    · rename_i y0 x0 st0
      cases ha
      obtain ⟨h1, h2, h3⟩ := okV2 hs
      have kk := k H locs lsM hL hl (okVc (okI_to _) h3) hW hS
      rw [List.map_cons, show cvv ad vF (.inl ((Int32.ofInt x0 ||| Int32.ofInt y0).toInt)) = .int (Int32.ofInt x0 ||| Int32.ofInt y0) from congrArg Value.int (Int32.ofInt_toInt _)] at kk
      exact lv_ior hx hb hd kk
    · simp at ha
    · cases ha
  · obtain rfl := il1 hn (Nat.succ_ne_zero _)
    simp only [aStep, binI, binL] at ha
    split at ha
    · rename_i y0 x0 st0
      cases ha
      obtain ⟨h1, h2, h3⟩ := okV2 hs
      have kk := k H locs lsM hL hl (okVc (okI_to _) h3) hW hS
      rw [List.map_cons, show cvv ad vF (.inl ((Int32.ofInt x0 ^^^ Int32.ofInt y0).toInt)) = .int (Int32.ofInt x0 ^^^ Int32.ofInt y0) from congrArg Value.int (Int32.ofInt_toInt _)] at kk
      exact lv_ixor hx hb hd kk
    · simp at ha
    · cases ha
  · obtain rfl := il1 hn (Nat.succ_ne_zero _)
    simp only [aStep, binI, binL] at ha
    split at ha
    · rename_i y0 x0 st0
      cases ha
      obtain ⟨h1, h2, h3⟩ := okV2 hs
      have kk := k H locs lsM hL hl (okVc (okI_to _) h3) hW hS
      rw [List.map_cons, show cvv ad vF (.inl ((Int32.ofInt x0 <<< (Int32.ofInt y0 &&& 31)).toInt)) = .int (Int32.ofInt x0 <<< (Int32.ofInt y0 &&& 31)) from congrArg Value.int (Int32.ofInt_toInt _)] at kk
      exact lv_ishl hx hb hd kk
    · simp at ha
    · cases ha
  · obtain rfl := il1 hn (Nat.succ_ne_zero _)
    simp only [aStep, binI, binL] at ha
    split at ha
    · rename_i y0 x0 st0
      cases ha
      obtain ⟨h1, h2, h3⟩ := okV2 hs
      have kk := k H locs lsM hL hl (okVc (okI_to _) h3) hW hS
      rw [List.map_cons, show cvv ad vF (.inl ((Int32.ofInt x0 >>> (Int32.ofInt y0 &&& 31)).toInt)) = .int (Int32.ofInt x0 >>> (Int32.ofInt y0 &&& 31)) from congrArg Value.int (Int32.ofInt_toInt _)] at kk
      exact lv_ishr hx hb hd kk
    · simp at ha
    · cases ha
  · obtain rfl := il1 hn (Nat.succ_ne_zero _)
    simp only [aStep, binI, binL] at ha
    split at ha
    · rename_i y0 x0 st0
      cases ha
      obtain ⟨h1, h2, h3⟩ := okV2 hs
      have kk := k H locs lsM hL hl (okVc (okI_to _) h3) hW hS
      rw [List.map_cons, show cvv ad vF (.inl ((((Int32.ofInt x0).toUInt32 >>> ((Int32.ofInt y0).toUInt32 &&& Int32.toUInt32 31)).toInt32).toInt)) = .int (((Int32.ofInt x0).toUInt32 >>> ((Int32.ofInt y0).toUInt32 &&& Int32.toUInt32 31)).toInt32) from congrArg Value.int (Int32.ofInt_toInt _)] at kk
      exact lv_iushr hx hb hd rfl kk
    · simp at ha
    · cases ha
theorem L_0 : (0 : Int64) = Int64.ofInt 0 := by decide
theorem sk_binL (C : Cx p s m args c y) (O : AdOK ad vF L) {i : Instr} (hf : fetch y pc = some (i, n)) (hi : i = .ladd ∨ i = .lsub ∨ i = .lmul ∨ i = .ldiv ∨ i = .lrem)
    (ha : aStep y i n pc ls st σ = some (pc', (ls', (st', σ')))) (k : Wk p l e R s m args below meth c cells slots Q D cA ad vF L xs A y pc' ls' st' σ') : Wk p l e R s m args below meth c cells slots Q D cA ad vF L xs A y pc ls st σ := by
  intro H locs lsM hL hl hs hW hS
  obtain ⟨hx, hb, hml, hown, hts⟩ := C
  have hd := fetch_ok hf
  have hn := len_ok hf
  rcases hi with rfl | rfl | rfl | rfl | rfl
  · obtain rfl := il1 hn (Nat.succ_ne_zero _)
    simp only [aStep, binI, binL] at ha
    split at ha
    · simp at ha
    · rename_i y0 x0 st0
      cases ha
      obtain ⟨h1, h2, h3⟩ := okV2 hs
      have kk := k H locs lsM hL hl (okVc (v := .inr (.inr (wl (x0 + y0)))) (wl_ok _) h3) hW hS
      rw [List.map_cons, show cvv ad vF (.inr (.inr (wl (x0 + y0)))) = .long (Int64.ofInt x0 + Int64.ofInt y0) from congrArg Value.long (by rw [L_wl, Int64.ofInt_add])] at kk
      exact lv_ladd hx hb hd kk
    · cases ha
  · obtain rfl := il1 hn (Nat.succ_ne_zero _)
    simp only [aStep, binI, binL] at ha
    split at ha
    · simp at ha
    · rename_i y0 x0 st0
      cases ha
      obtain ⟨h1, h2, h3⟩ := okV2 hs
      have kk := k H locs lsM hL hl (okVc (v := .inr (.inr (wl (x0 - y0)))) (wl_ok _) h3) hW hS
      rw [List.map_cons, show cvv ad vF (.inr (.inr (wl (x0 - y0)))) = .long (Int64.ofInt x0 - Int64.ofInt y0) from congrArg Value.long (by rw [L_wl, Int64.ofInt_sub])] at kk
      exact lv_lsub hx hb hd kk
    · cases ha
  · obtain rfl := il1 hn (Nat.succ_ne_zero _)
    simp only [aStep, binI, binL] at ha
    split at ha
    · simp at ha
    · rename_i y0 x0 st0
      cases ha
      obtain ⟨h1, h2, h3⟩ := okV2 hs
      have kk := k H locs lsM hL hl (okVc (v := .inr (.inr (wl (x0 * y0)))) (wl_ok _) h3) hW hS
      rw [List.map_cons, show cvv ad vF (.inr (.inr (wl (x0 * y0)))) = .long (Int64.ofInt x0 * Int64.ofInt y0) from congrArg Value.long (by rw [L_wl, Int64.ofInt_mul])] at kk
      exact lv_lmul hx hb hd kk
    · cases ha
  · obtain rfl := il1 hn (Nat.succ_ne_zero _)
    simp only [aStep, binI, binL] at ha
    split at ha
    · simp at ha
    · rename_i y0 x0 st0
      split at ha
      · rename_i z0 hz
        split at hz
        · cases hz
        · rename_i hy0
          cases hz
          cases ha
          obtain ⟨h1, h2, h3⟩ := okV2 hs
          have kk := k H locs lsM hL hl (okVc (v := .inr (.inr (wl (x0.tdiv y0)))) (wl_ok _) h3) hW hS
          rw [List.map_cons, show cvv ad vF (.inr (.inr (wl (x0.tdiv y0)))) = .long (Int64.ofInt x0 / Int64.ofInt y0) from congrArg Value.long ((L_div h2 h1).symm)] at kk
          exact lv_ldiv hx hb hd (fun z => hy0 ((L_eq h1 ⟨by omega, by omega⟩).mp (z.trans L_0))) kk
      · cases ha
    · cases ha
  · obtain rfl := il1 hn (Nat.succ_ne_zero _)
    simp only [aStep, binI, binL] at ha
    split at ha
    · simp at ha
    · rename_i y0 x0 st0
      split at ha
      · rename_i z0 hz
        split at hz
        · cases hz
        · rename_i hy0
          cases hz
          cases ha
          obtain ⟨h1, h2, h3⟩ := okV2 hs
          have kk := k H locs lsM hL hl (okVc (v := .inr (.inr (x0.tmod y0))) (tmodL_ok h2) h3) hW hS
          rw [List.map_cons, show cvv ad vF (.inr (.inr (x0.tmod y0))) = .long (Int64.ofInt x0 - Int64.ofInt x0 / Int64.ofInt y0 * Int64.ofInt y0) from congrArg Value.long ((L_rem h2 h1).symm)] at kk
          exact lv_lrem hx hb hd (fun z => hy0 ((L_eq h1 ⟨by omega, by omega⟩).mp (z.trans L_0))) kk
      · cases ha
    · cases ha
theorem sk_un (C : Cx p s m args c y) (O : AdOK ad vF L) {i : Instr} (hf : fetch y pc = some (i, n)) (hi : i = .ineg ∨ i = .i2b ∨ i = .i2c ∨ i = .i2l ∨ i = .lcmp)
    (ha : aStep y i n pc ls st σ = some (pc', (ls', (st', σ')))) (k : Wk p l e R s m args below meth c cells slots Q D cA ad vF L xs A y pc' ls' st' σ') : Wk p l e R s m args below meth c cells slots Q D cA ad vF L xs A y pc ls st σ := by
  intro H locs lsM hL hl hs hW hS
  obtain ⟨hx, hb, hml, hown, hts⟩ := C
  have hd := fetch_ok hf
  have hn := len_ok hf
  rcases hi with rfl | rfl | rfl | rfl | rfl
  · obtain rfl := il1 hn (Nat.succ_ne_zero _)
    simp only [aStep, aUn, unI] at ha
    split at ha
    · rename_i x0 st0
      cases ha
      obtain ⟨h1, h2⟩ := okV1 hs
      have kk := k H locs lsM hL hl (okVc (wr_ok _) h2) hW hS
      rw [List.map_cons, show cvv ad vF (.inl (wr (-x0))) = .int (-Int32.ofInt x0) from congrArg Value.int (by rw [I_wr, Int32.ofInt_neg])] at kk
      exact lv_ineg hx hb hd kk
    · cases ha
  · obtain rfl := il1 hn (Nat.succ_ne_zero _)
    simp only [aStep, aUn, unI] at ha
    split at ha
    · rename_i x0 st0
      cases ha
      obtain ⟨h1, h2⟩ := okV1 hs
      have kk := k H locs lsM hL hl (okVc (okI_to _) h2) hW hS
      rw [List.map_cons, show cvv ad vF (.inl (Int32.ofInt x0).toInt8.toInt32.toInt) = .int ((Int32.ofInt x0).toInt8.toInt32) from congrArg Value.int (Int32.ofInt_toInt _)] at kk
      exact lv_i2b hx hb hd rfl kk
    · cases ha
  · obtain rfl := il1 hn (Nat.succ_ne_zero _)
    simp only [aStep, aUn, unI] at ha
    split at ha
    · rename_i x0 st0
      cases ha
      obtain ⟨h1, h2⟩ := okV1 hs
      have kk := k H locs lsM hL hl (okVc (okI_to _) h2) hW hS
      rw [List.map_cons, show cvv ad vF (.inl ((Int32.ofInt x0).toUInt32 % 65536).toInt32.toInt) = .int (((Int32.ofInt x0).toUInt32 % 65536).toInt32) from congrArg Value.int (Int32.ofInt_toInt _)] at kk
      exact lv_i2c hx hb hd rfl kk
    · cases ha
  · obtain rfl := il1 hn (Nat.succ_ne_zero _)
    simp only [aStep] at ha
    split at ha
    · rename_i x0 st0
      cases ha
      obtain ⟨h1, h2⟩ := okV1 hs
      have h3 : okL x0 := ⟨by have := h1.1; omega, by have := h1.2; omega⟩
      exact lv_i2l hx hb hd (I_i2l h1) (k H locs lsM hL hl (okVc (v := .inr (.inr x0)) h3 h2) hW hS)
    · cases ha
  · obtain rfl := il1 hn (Nat.succ_ne_zero _)
    simp only [aStep] at ha
    split at ha
    · rename_i y0 x0 st0
      cases ha
      obtain ⟨h1, h2, h3⟩ := okV2 hs
      have h4 : okI (if y0 < x0 then 1 else if x0 = y0 then 0 else -1) := by
        unfold okI
        constructor <;> (repeat' split) <;> omega
      have kk := k H locs lsM hL hl (okVc h4 h3) hW hS
      rw [List.map_cons, show cvv ad vF (.inl (if y0 < x0 then 1 else if x0 = y0 then 0 else -1)) = .int (lg_cmp (Int64.ofInt x0) (Int64.ofInt y0)) from congrArg Value.int (I_cmp h2 h1).symm] at kk
      exact W.lcmp hx hb hd kk
    · cases ha
theorem cmp_eq {x y : Int} (hx : okI x) (hy : okI y) : cmpI .eq x y = true ↔ Int32.ofInt x = Int32.ofInt y := by rw [I_eq hx hy]; simp [cmpI]
theorem cmp_ne {x y : Int} (hx : okI x) (hy : okI y) : cmpI .ne x y = true ↔ ¬ Int32.ofInt x = Int32.ofInt y := by rw [I_eq hx hy]; simp [cmpI]
theorem cmp_lt {x y : Int} (hx : okI x) (hy : okI y) : cmpI .lt x y = true ↔ Int32.ofInt x < Int32.ofInt y := by rw [I_lt hx hy]; simp [cmpI]
theorem cmp_ge {x y : Int} (hx : okI x) (hy : okI y) : cmpI .ge x y = true ↔ Int32.ofInt y ≤ Int32.ofInt x := by rw [I_le hy hx]; simp [cmpI]
theorem cmp_gt {x y : Int} (hx : okI x) (hy : okI y) : cmpI .gt x y = true ↔ Int32.ofInt y < Int32.ofInt x := by rw [I_lt hy hx]; simp [cmpI]
theorem cmp_le {x y : Int} (hx : okI x) (hy : okI y) : cmpI .le x y = true ↔ Int32.ofInt x ≤ Int32.ofInt y := by rw [I_le hx hy]; simp [cmpI]
theorem sk_br (C : Cx p s m args c y) (O : AdOK ad vF L) {i : Instr} (hf : fetch y pc = some (i, n)) (hi : (∃ q off, i = .ifCond q off) ∨ (∃ q off, i = .if_icmp q off))
    (ha : aStep y i n pc ls st σ = some (pc', (ls', (st', σ')))) (k : Wk p l e R s m args below meth c cells slots Q D cA ad vF L xs A y pc' ls' st' σ') : Wk p l e R s m args below meth c cells slots Q D cA ad vF L xs A y pc ls st σ := by
  intro H locs lsM hL hl hs hW hS
  obtain ⟨hx, hb, hml, hown, hts⟩ := C
  have hd := fetch_ok hf
  have hn := len_ok hf
  rcases hi with ⟨q, off, rfl⟩ | ⟨q, off, rfl⟩
  · obtain rfl := il1 hn (Nat.succ_ne_zero _)
    simp only [aStep, jmp] at ha
    cases q
    case eq =>
      split at ha
      · rename_i x0 st0
        split at ha
        · rename_i t0 hb0
          cases ha
          obtain ⟨t9, ht, hq⟩ := brn_spec hb0
          subst hq
          obtain ⟨h1, h2⟩ := okV1 hs
          have kk := fun (pp : Nat) (hp : pp = if cmpI .eq x0 0 = true then t9 else pc + 3) => hp ▸ k H locs lsM hL hl h2 hW hS
          have hc := cmp_eq h1 okI_0
          rw [← I_0] at hc
          exact lv_if_eq hx hb hd ht (fun z => kk _ (if_pos (hc.mpr z)).symm) (fun z => kk _ (if_neg (fun q => z (hc.mp q))).symm)
        · cases ha
      · cases ha
    case ne =>
      split at ha
      · rename_i x0 st0
        split at ha
        · rename_i t0 hb0
          cases ha
          obtain ⟨t9, ht, hq⟩ := brn_spec hb0
          subst hq
          obtain ⟨h1, h2⟩ := okV1 hs
          have kk := fun (pp : Nat) (hp : pp = if cmpI .ne x0 0 = true then t9 else pc + 3) => hp ▸ k H locs lsM hL hl h2 hW hS
          have hc := cmp_ne h1 okI_0
          rw [← I_0] at hc
          exact lv_if_ne hx hb hd ht (fun z => kk _ (if_pos (hc.mpr z)).symm) (fun z => kk _ (if_neg (fun q => (hc.mp q) z)).symm)
        · cases ha
      · cases ha
    case lt =>
      split at ha
      · rename_i x0 st0
        split at ha
        · rename_i t0 hb0
          cases ha
          obtain ⟨t9, ht, hq⟩ := brn_spec hb0
          subst hq
          obtain ⟨h1, h2⟩ := okV1 hs
          have kk := fun (pp : Nat) (hp : pp = if cmpI .lt x0 0 = true then t9 else pc + 3) => hp ▸ k H locs lsM hL hl h2 hW hS
          have hc := cmp_lt h1 okI_0
          rw [← I_0] at hc
          exact lv_if_lt hx hb hd ht (fun z => kk _ (if_pos (hc.mpr z)).symm) (fun z => kk _ (if_neg (fun q => z (hc.mp q))).symm)
        · cases ha
      · cases ha
    case ge =>
      split at ha
      · rename_i x0 st0
        split at ha
        · rename_i t0 hb0
          cases ha
          obtain ⟨t9, ht, hq⟩ := brn_spec hb0
          subst hq
          obtain ⟨h1, h2⟩ := okV1 hs
          have kk := fun (pp : Nat) (hp : pp = if cmpI .ge x0 0 = true then t9 else pc + 3) => hp ▸ k H locs lsM hL hl h2 hW hS
          have hc := cmp_ge h1 okI_0
          rw [← I_0] at hc
          exact lv_if_ge hx hb hd ht (fun z => kk _ (if_pos (hc.mpr z)).symm) (fun z => kk _ (if_neg (fun q => z (hc.mp q))).symm)
        · cases ha
      · cases ha
    case gt =>
      split at ha
      · rename_i x0 st0
        split at ha
        · rename_i t0 hb0
          cases ha
          obtain ⟨t9, ht, hq⟩ := brn_spec hb0
          subst hq
          obtain ⟨h1, h2⟩ := okV1 hs
          have kk := fun (pp : Nat) (hp : pp = if cmpI .gt x0 0 = true then t9 else pc + 3) => hp ▸ k H locs lsM hL hl h2 hW hS
          have hc := cmp_gt h1 okI_0
          rw [← I_0] at hc
          exact lv_if_gt hx hb hd ht (fun z => kk _ (if_pos (hc.mpr z)).symm) (fun z => kk _ (if_neg (fun q => z (hc.mp q))).symm)
        · cases ha
      · cases ha
    case le =>
      split at ha
      · rename_i x0 st0
        split at ha
        · rename_i t0 hb0
          cases ha
          obtain ⟨t9, ht, hq⟩ := brn_spec hb0
          subst hq
          obtain ⟨h1, h2⟩ := okV1 hs
          have kk := fun (pp : Nat) (hp : pp = if cmpI .le x0 0 = true then t9 else pc + 3) => hp ▸ k H locs lsM hL hl h2 hW hS
          have hc := cmp_le h1 okI_0
          rw [← I_0] at hc
          exact lv_if_le hx hb hd ht (fun z => kk _ (if_pos (hc.mpr z)).symm) (fun z => kk _ (if_neg (fun q => z (hc.mp q))).symm)
        · cases ha
      · cases ha
  · obtain rfl := il1 hn (Nat.succ_ne_zero _)
    simp only [aStep, jmp] at ha
    cases q
    case eq =>
      split at ha
      · rename_i y0 x0 st0
        split at ha
        · rename_i t0 hb0
          cases ha
          obtain ⟨t9, ht, hq⟩ := brn_spec hb0
          subst hq
          obtain ⟨h1, h2, h3⟩ := okV2 hs
          have kk := fun (pp : Nat) (hp : pp = if cmpI .eq x0 y0 = true then t9 else pc + 3) => hp ▸ k H locs lsM hL hl h3 hW hS
          have hc := cmp_eq h2 h1
          exact lv_icmp_eq hx hb hd ht (fun z => kk _ (if_pos (hc.mpr z)).symm) (fun z => kk _ (if_neg (fun q => z (hc.mp q))).symm)
        · cases ha
      · cases ha
    case ne =>
      split at ha
      · rename_i y0 x0 st0
        split at ha
        · rename_i t0 hb0
          cases ha
          obtain ⟨t9, ht, hq⟩ := brn_spec hb0
          subst hq
          obtain ⟨h1, h2, h3⟩ := okV2 hs
          have kk := fun (pp : Nat) (hp : pp = if cmpI .ne x0 y0 = true then t9 else pc + 3) => hp ▸ k H locs lsM hL hl h3 hW hS
          have hc := cmp_ne h2 h1
          exact lv_icmp_ne hx hb hd ht (fun z => kk _ (if_pos (hc.mpr z)).symm) (fun z => kk _ (if_neg (fun q => (hc.mp q) z)).symm)
        · cases ha
      · cases ha
    case lt =>
      split at ha
      · rename_i y0 x0 st0
        split at ha
        · rename_i t0 hb0
          cases ha
          obtain ⟨t9, ht, hq⟩ := brn_spec hb0
          subst hq
          obtain ⟨h1, h2, h3⟩ := okV2 hs
          have kk := fun (pp : Nat) (hp : pp = if cmpI .lt x0 y0 = true then t9 else pc + 3) => hp ▸ k H locs lsM hL hl h3 hW hS
          have hc := cmp_lt h2 h1
          exact lv_icmp_lt hx hb hd ht (fun z => kk _ (if_pos (hc.mpr z)).symm) (fun z => kk _ (if_neg (fun q => z (hc.mp q))).symm)
        · cases ha
      · cases ha
    case ge =>
      split at ha
      · rename_i y0 x0 st0
        split at ha
        · rename_i t0 hb0
          cases ha
          obtain ⟨t9, ht, hq⟩ := brn_spec hb0
          subst hq
          obtain ⟨h1, h2, h3⟩ := okV2 hs
          have kk := fun (pp : Nat) (hp : pp = if cmpI .ge x0 y0 = true then t9 else pc + 3) => hp ▸ k H locs lsM hL hl h3 hW hS
          have hc := cmp_ge h2 h1
          exact lv_icmp_ge hx hb hd ht (fun z => kk _ (if_pos (hc.mpr z)).symm) (fun z => kk _ (if_neg (fun q => z (hc.mp q))).symm)
        · cases ha
      · cases ha
    case gt =>
      split at ha
      · rename_i y0 x0 st0
        split at ha
        · rename_i t0 hb0
          cases ha
          obtain ⟨t9, ht, hq⟩ := brn_spec hb0
          subst hq
          obtain ⟨h1, h2, h3⟩ := okV2 hs
          have kk := fun (pp : Nat) (hp : pp = if cmpI .gt x0 y0 = true then t9 else pc + 3) => hp ▸ k H locs lsM hL hl h3 hW hS
          have hc := cmp_gt h2 h1
          exact lv_icmp_gt hx hb hd ht (fun z => kk _ (if_pos (hc.mpr z)).symm) (fun z => kk _ (if_neg (fun q => z (hc.mp q))).symm)
        · cases ha
      · cases ha
    case le =>
      split at ha
      · rename_i y0 x0 st0
        split at ha
        · rename_i t0 hb0
          cases ha
          obtain ⟨t9, ht, hq⟩ := brn_spec hb0
          subst hq
          obtain ⟨h1, h2, h3⟩ := okV2 hs
          have kk := fun (pp : Nat) (hp : pp = if cmpI .le x0 y0 = true then t9 else pc + 3) => hp ▸ k H locs lsM hL hl h3 hW hS
          have hc := cmp_le h2 h1
          exact lv_icmp_le hx hb hd ht (fun z => kk _ (if_pos (hc.mpr z)).symm) (fun z => kk _ (if_neg (fun q => z (hc.mp q))).symm)
        · cases ha
      · cases ha
theorem sk_jmp (C : Cx p s m args c y) (O : AdOK ad vF L) {i : Instr} (hf : fetch y pc = some (i, n)) (hi : (∃ off, i = .goto off) ∨ (∃ d lo hi offs, i = .tableswitch d lo hi offs) ∨ (∃ d ps, i = .lookupswitch d ps))
    (ha : aStep y i n pc ls st σ = some (pc', (ls', (st', σ')))) (k : Wk p l e R s m args below meth c cells slots Q D cA ad vF L xs A y pc' ls' st' σ') : Wk p l e R s m args below meth c cells slots Q D cA ad vF L xs A y pc ls st σ := by
  intro H locs lsM hL hl hs hW hS
  obtain ⟨hx, hb, hml, hown, hts⟩ := C
  have hd := fetch_ok hf
  have hn := len_ok hf
  rcases hi with ⟨off, rfl⟩ | ⟨d, lo, hh, offs, rfl⟩ | ⟨d, ps, rfl⟩
  · obtain rfl := il1 hn (Nat.succ_ne_zero _)
    simp only [aStep, jmp] at ha
    split at ha
    · rename_i t0 h0
      cases ha
      exact lv_goto hx hb hd (tgt_spec h0) (k H locs lsM hL hl hs hW hS)
    · cases ha
  · simp only [aStep] at ha
    split at ha
    · rename_i x0 st0
      obtain ⟨h1, h2⟩ := okV1 hs
      split at ha
      · rename_i hout
        unfold jmp at ha
        split at ha
        · rename_i t0 h0
          cases ha
          exact lv_tableOut hx hb hd (by rw [toI h1]; exact hout) (tgt_spec h0) (k H locs lsM hL hl h2 hW hS)
        · cases ha
      · rename_i hin
        split at ha
        · rename_i off ho
          unfold jmp at ha
          split at ha
          · rename_i t0 h0
            cases ha
            exact lv_tableIn hx hb hd (by rw [toI h1]; exact fun z => hin (Or.inl z)) (by rw [toI h1]; exact fun z => hin (Or.inr z)) (by rw [toI h1]; exact ho) (tgt_spec h0) (k H locs lsM hL hl h2 hW hS)
          · cases ha
        · cases ha
    · cases ha
  · simp only [aStep] at ha
    split at ha
    · rename_i x0 st0
      obtain ⟨h1, h2⟩ := okV1 hs
      split at ha
      · rename_i hp
        unfold jmp at ha
        split at ha
        · rename_i t0 h0
          cases ha
          exact lv_lookup hx hb hd hp (by rw [toI h1]) (tgt_spec h0) (k H locs lsM hL hl h2 hW hS)
        · cases ha
      · cases ha
    · cases ha
end STEP2
end
section
theorem vw_at : ∀ o, o < 5 → vwC[o]? = some (vwD o) := fun o ho => by rcases o with _ | _ | _ | _ | _ | o <;> first | rfl | omega
theorem wu_all : ∀ o, o < 5 → ∀ w ∈ u_ws (vwD o).1 (vwD o).2.1 (vwD o).2.2, w ∈ lwg := fun o ho => by
  have key : ∀ {l : List Cond}, l.all (fun w => decide (w ∈ lwg)) = true → ∀ w ∈ l, w ∈ lwg := fun h w hw => of_decide_eq_true (List.all_eq_true.mp h w hw)
  rcases o with _ | _ | _ | _ | _ | o
  · exact key wu_RX0
  · exact key wu_RX1
  · exact key wu_RX2
  · exact key wu_RX4
  · exact key wu_RX5
  · omega
theorem vw_ty : ∀ o, o < 5 → ∃ ty0 : Nat → FieldType, (∀ k, k < (vwD o).2.2 → parseFieldDescriptor ((vwD o).2.1 k).2.2.1 = some (ty0 k)) ∧ (∀ a, a < (vwD o).2.2 → ∀ b, b < (vwD o).2.2 → a ≠ b → ((vwD o).2.1 a).2.1 ≠ ((vwD o).2.1 b).2.1) := fun o ho => by
  rcases o with _ | _ | _ | _ | _ | o
  · exact ⟨tyX0, tyX0_ok, nmX0⟩
  · exact ⟨tyX1, tyX1_ok, nmX1⟩
  · exact ⟨tyX2, tyX2_ok, nmX2⟩
  · exact ⟨tyX4, tyX4_ok, nmX4⟩
  · exact ⟨tyX5, tyX5_ok, nmX5⟩
  · omega
theorem okR_str {t r : Nat} (h : okR t r) (ht : t = 30 ∨ t = 31) : r < 8 := by
  rcases h with h | h | h | h | h
  · have := vld_lt h; omega
  · exact h.2
  · omega
  · omega
  · omega
theorem getD_lt {α : Type} {t : List (List (Nat × α))} {cc idx : Nat} {v : α} (h : (t.getD cc []).lookup idx = some v) : cc < t.length := by
  rcases Nat.lt_or_ge cc t.length with q | q
  · exact q
  · rw [List.getD_eq_getElem?_getD, List.getElem?_eq_none q] at h; cases h
theorem fk_spec {cc idx o kf ps : Nat} (h : (fkT.getD cc []).lookup idx = some (o, (kf, ps))) : Cond.fieldLink (cN cc) idx ((vwD o).2.1 kf).1 ((vwD o).2.1 kf).2.1 ((vwD o).2.1 kf).2.2.1 ∈ lwg ∧ kf < (vwD o).2.2 ∧ o < 5 := by
  have h1 := List.all_eq_true.mp (List.all_eq_true.mp wFld_ok cc (List.mem_range.mpr (getD_lt h))) _ (lookup_in _ h)
  unfold wFld at h1
  rw [Bool.and_eq_true, Bool.and_eq_true] at h1
  exact ⟨wAt_in h1.1.1, Nat.le_of_ble_eq_true h1.1.2, Nat.le_of_ble_eq_true h1.2⟩
theorem ck_spec {cc idx ps : Nat} {v : Int} (h : (ckT.getD cc []).lookup idx = some (v, ps)) : Cond.constant (cN cc) idx (Int32.ofInt v) ∈ lwg ∧ okI v := by
  have h1 := List.all_eq_true.mp (List.all_eq_true.mp wCst_ok cc (List.mem_range.mpr (getD_lt h))) _ (lookup_in _ h)
  rw [Bool.and_eq_true] at h1
  have h2 : -2147483648 ≤ v ∧ v < 2147483648 := of_decide_eq_true h1.2
  exact ⟨wAt_in h1.1, h2⟩
theorem cl_spec {cc idx ps : Nat} {v : Int} (h : (clT.getD cc []).lookup idx = some (v, ps)) : Cond.constantLong (cN cc) idx (Int64.ofInt v) ∈ lwg ∧ okL v := by
  have h1 := List.all_eq_true.mp (List.all_eq_true.mp wCsl_ok cc (List.mem_range.mpr (getD_lt h))) _ (lookup_in _ h)
  rw [Bool.and_eq_true] at h1
  have h2 : -9223372036854775808 ≤ v ∧ v < 9223372036854775808 := of_decide_eq_true h1.2
  exact ⟨wAt_in h1.1, h2⟩
theorem pm_spec {cc idx w ps : Nat} (h : (pmT.getD cc []).lookup idx = some (w, ps)) : Cond.methodLink (cN cc) idx (if w == 0 then Lib.Math.max.name else Lib.Math.min.name) ∈ lwg := by
  have h1 := List.all_eq_true.mp (List.all_eq_true.mp wPm_ok cc (List.mem_range.mpr (getD_lt h))) _ (lookup_in _ h)
  exact wAt_in h1
set_option maxRecDepth 100000 in
theorem wJs : (wAt 5205 (.fieldLink RJ0 9 "java/lang/String" "value" "[B") && wAt 5206 (.fieldLink RJ0 15 "java/lang/String" "coder" "B") && wAt 1178 (.fieldLink RJ0 38 "java/lang/String" "COMPACT_STRINGS" "Z") && wAt 1203 (.fieldLink RJ0 1053 "jdk/internal/util/Preconditions" "SIOOBE_FORMATTER" "Ljava/util/function/BiFunction;")) = true := by decide +kernel
theorem wJs_all : Cond.fieldLink RJ0 9 "java/lang/String" "value" "[B" ∈ lwg ∧ Cond.fieldLink RJ0 15 "java/lang/String" "coder" "B" ∈ lwg ∧ Cond.fieldLink RJ0 38 "java/lang/String" "COMPACT_STRINGS" "Z" ∈ lwg ∧ Cond.fieldLink RJ0 1053 "jdk/internal/util/Preconditions" "SIOOBE_FORMATTER" "Ljava/util/function/BiFunction;" ∈ lwg := by
  have h := wJs
  rw [Bool.and_eq_true, Bool.and_eq_true, Bool.and_eq_true] at h
  exact ⟨wAt_in h.1.1.1, wAt_in h.1.1.2, wAt_in h.1.2, wAt_in h.2⟩
/-- the objects' fields, as the tables have them -/
theorem fd_all : ((List.range 17).all fun t => (List.range 14).all fun k => match (fds t)[k]? with | some (.inl b) => decide (ocl t < 5) && decide (parseFieldDescriptor ((vwD (ocl t)).2.1 k).2.2.1 = some (if b == 0 then .int else .boolean)) && decide (((vwD (ocl t)).2.1 k).2.2.2 = false) | _ => true) = true := by decide +kernel
theorem fd_len : ((List.range 17).all fun t => decide ((fds t).length ≤ 14)) = true := by decide +kernel
theorem fd_spec {t k b : Nat} (h : (fds t)[k]? = some (.inl b)) : parseFieldDescriptor ((vwD (ocl t)).2.1 k).2.2.1 = some (if b == 0 then .int else .boolean) ∧ ((vwD (ocl t)).2.1 k).2.2.2 = false := by
  have ht : t < 17 := by
    rcases Nat.lt_or_ge t 17 with q | q
    · exact q
    · have e : fds t = [] := by
        unfold fds
        rw [List.getD_eq_getElem?_getD, List.getElem?_eq_none (by have : fdT.length = 17 := rfl; omega)]
        rfl
      rw [e] at h; cases h
  have hk : k < 14 := Nat.lt_of_lt_of_le (List.getElem?_eq_some_iff.mp h).1 (of_decide_eq_true (List.all_eq_true.mp fd_len t (List.mem_range.mpr ht)))
  have h1 := List.all_eq_true.mp (List.all_eq_true.mp fd_all t (List.mem_range.mpr ht)) k (List.mem_range.mpr hk)
  rw [h] at h1
  simp only [Bool.and_eq_true] at h1
  exact ⟨of_decide_eq_true h1.1.2, of_decide_eq_true h1.2⟩
theorem idxOf_spec {idx : Nat} : ∀ (l : List Nat) (j k : Nat), idxOf (fun a => a == idx) l j = some k → ∃ q, k = j + q ∧ l[q]? = some idx := by
  intro l
  induction l with
  | nil => intro j k h; cases h
  | cons a l ih =>
    intro j k h
    unfold idxOf at h
    split at h
    · rename_i ha
      cases h
      exact ⟨0, rfl, by have : a = idx := by simpa using ha
                        rw [this]; rfl⟩
    · obtain ⟨q, h1, h2⟩ := ih _ _ h
      exact ⟨q + 1, by omega, by simpa using h2⟩
theorem cel_up_obj {cA : ClassId} {ad : Nat → Nat → Nat} {σ : St} {t r k b : Nat} {v : Int} (h : (fds t)[k]? = some (.inl b)) : cel cA ad (up σ t r k v) t r = .inr (ocl t, ((fds t).mapIdx (celF ad σ t r)).set k (.int (Int32.ofInt v))) := by
  rw [cel_obj (fd_obj h)]
  congr 2
  refine List.ext_getElem? fun i => ?_
  rw [List.getElem?_mapIdx, List.getElem?_set, List.length_mapIdx, List.getElem?_mapIdx]
  by_cases e : k = i
  · subst e
    rw [if_pos rfl, if_pos (List.getElem?_eq_some_iff.mp h).1, h]
    show some (Value.int (Int32.ofInt (up σ t r k v t r k))) = _
    unfold up
    rw [if_pos ⟨rfl, rfl, rfl⟩]
  · rw [if_neg e]
    cases hq : (fds t)[i]? with
    | none => rfl
    | some sp =>
      show some _ = some _
      congr 1
      rcases sp with b2 | ⟨t2, rr⟩
      · show Value.int (Int32.ofInt (up σ t r k v t r i)) = Value.int (Int32.ofInt (σ t r i))
        unfold up
        rw [if_neg (fun z => e z.2.2.symm)]
      · rfl
theorem cel_up_arr {cA : ClassId} {ad : Nat → Nat → Nat} {σ : St} {t r k : Nat} {v : Int} (h : alen t ≠ 0) : cel cA ad (up σ t r k v) t r = .inl (cA, (alen t, .inl (upd (fun j => Int32.ofInt (σ t r j)) k (Int32.ofInt v)))) := by
  rw [cel_arr h]
  congr 4
  funext j
  show Int32.ofInt (up σ t r k v t r j) = if j = k then Int32.ofInt v else Int32.ofInt (σ t r j)
  unfold up
  by_cases e : j = k
  · rw [if_pos ⟨rfl, rfl, e⟩, if_pos e]
  · rw [if_neg (fun z => e z.2.2), if_neg e]
theorem cel_cpy {cA : ClassId} {ad : Nat → Nat → Nat} {σ : St} {t0 r0 sp t r dp n : Nat} (h : alen t ≠ 0) : cel cA ad (cpy σ t0 r0 sp t r dp n) t r = .inl (cA, (alen t, .inl (va_cpy (fun j => Int32.ofInt (σ t0 r0 j)) (fun j => Int32.ofInt (σ t r j)) sp dp n))) := by
  rw [cel_arr h]
  congr 4
  funext j
  show Int32.ofInt (cpy σ t0 r0 sp t r dp n t r j) = if dp ≤ j ∧ j < dp + n then Int32.ofInt (σ t0 r0 (sp + (j - dp))) else Int32.ofInt (σ t r j)
  unfold cpy
  by_cases e : dp ≤ j ∧ j < dp + n
  · rw [if_pos ⟨rfl, rfl, e.1, e.2⟩, if_pos e]
  · rw [if_neg (fun z => e ⟨z.2.2.1, z.2.2.2⟩), if_neg e]
theorem okS_up {σ : St} {t r k : Nat} {v : Int} (h : okS σ) (hv : okI v) : okS (up σ t r k v) := fun a b c => by
  unfold up
  split
  · exact hv
  · exact h a b c
theorem okS_cpy {σ : St} {t0 r0 sp t r dp n : Nat} (h : okS σ) : okS (cpy σ t0 r0 sp t r dp n) := fun a b c => by
  unfold cpy
  split
  · exact h _ _ _
  · exact h a b c

section STEP3
variable {p : Program} {l : Launch} {e : Env} {R : Room} {s : State} {m : MethodId} {args : Array Value} {below : List Frame} {meth : Method} {c : Code} {cells slots : Nat} {Q : State → Prop}
variable {D : va_G} {cA : ClassId} {ad : Nat → Nat → Nat} {vF : Value} {L : Nat} {xs : Nat → Int32} {A : Nat → Prop} {y : Nat} {pc n : Nat} {ls st : List AV} {σ : St} {pc' : Nat} {ls' st' : List AV} {σ' : St}

theorem sk_get (C : Cx p s m args c y) (E : Evn D cA ad vF L xs A s) (O : AdOK ad vF L) (hA : AdIn ad A) (hR : mFr y ≤ R.frames ∧ mLo y ≤ R.locals ∧ cells ≤ R.cells ∧ slots ≤ R.slots) {i : Instr} (hf : fetch y pc = some (i, n)) (hi : ∃ j, i = .getfield j)
    (ha : aStep y i n pc ls st σ = some (pc', (ls', (st', σ')))) (k : Wk p l e R s m args below meth c cells slots Q D cA ad vF L xs A y pc' ls' st' σ') : Wk p l e R s m args below meth c cells slots Q D cA ad vF L xs A y pc ls st σ := by
  intro H locs lsM hL hl hs hW hS
  obtain ⟨hx, hb, hml, hown, hts⟩ := C
  obtain ⟨eK, eS, eR, eZ1, eZ2, eN, eX, eb, ebA⟩ := E
  have hd := fetch_ok hf
  have hn := len_ok hf
  obtain ⟨idx, rfl⟩ := hi
  obtain rfl := il1 hn (Nat.succ_ne_zero _)
  simp only [aStep, aGet] at ha
  split at ha
  · rename_i t r st0
    obtain ⟨h1, h2⟩ := okV1 hs
    split at ha
    · rename_i ht
      obtain rfl : t = 30 := by simpa using ht
      split at ha
      · rename_i hc
        have hc : mC y = 7 := by simpa using hc
        have hr : r < 8 := okR_str h1 (Or.inl rfl)
        have hown' : s.vm.findClass RJ0 = some m.cls := by rw [hc] at hown; exact hown
        split at ha
        · rename_i hi9
          obtain rfl : idx = 9 := by simpa using hi9
          cases ha
          exact vk_getf hx hb (eS.1 r hr).2.2.1 hS hown' (hts _ wJs_all.1) (fun _ h9 => h9) hd (k H locs lsM hL hl (okVc (v := .inr (.inl (31, r))) (Or.inr (Or.inl ⟨Or.inr rfl, hr⟩)) h2) hW hS)
        · split at ha
          · rename_i hi9
            obtain rfl : idx = 15 := by simpa using hi9
            cases ha
            exact vk_getf hx hb (eS.1 r hr).2.1 hS hown' (hts _ wJs_all.2.1) (fun _ h9 => h9) hd (k H locs lsM hL hl (okVc okI_0 h2) hW hS)
          · cases ha
      · cases ha
    · split at ha
      · cases ha
      · rename_i o9 kf ps hlk
        split at ha
        · rename_i ho
          obtain rfl : ocl t = o9 := by simpa using ho
          obtain ⟨w1, w2, w3⟩ := fk_spec hlk
          have hv := okR_obj h1 w3
          have h33 : ¬ t = 33 := by have := vld_lt hv; omega
          split at ha
          · rename_i b hk
            cases ha
            have he := wld_at (cA := cA) (ad := ad) (σ := σ) hv
            rw [cel_obj (fd_obj hk)] at he
            rw [List.map_cons, cvv_r h33]
            exact va_get (D := D) (ci := ocl t) (C := (vwD (ocl t)).1) (T := (vwD (ocl t)).2.1) (N := (vwD (ocl t)).2.2) hx hb hts (wu_all _ w3) hown eK hW.1 (wpos t r) he (vw_at _ w3) kf w2 (hts _ w1) (fun _ h9 => h9) (by rw [List.getElem?_mapIdx, hk]; rfl) hd (k H locs lsM hL hl (okVc (v := .inl (σ t r kf)) (hW.2.2.2 _ _ _) h2) hW hS)
          · rename_i t2 rr hk
            cases ha
            have he := wld_at (cA := cA) (ad := ad) (σ := σ) hv
            rw [cel_obj (fd_obj hk)] at he
            have hv2 := fd_vld hv hk
            have h332 : ¬ t2 = 33 := by have := vld_lt hv2; omega
            have kk := k H locs lsM hL hl (okVc (v := .inr (.inl (t2, rr.getD r))) (Or.inl hv2) h2) hW hS
            rw [List.map_cons, cvv_r h332] at kk
            rw [List.map_cons, cvv_r h33]
            exact va_get (D := D) (ci := ocl t) (C := (vwD (ocl t)).1) (T := (vwD (ocl t)).2.1) (N := (vwD (ocl t)).2.2) hx hb hts (wu_all _ w3) hown eK hW.1 (wpos t r) he (vw_at _ w3) kf w2 (hts _ w1) (fun _ h9 => h9) (by rw [List.getElem?_mapIdx, hk]; rfl) hd kk
          · cases ha
        · cases ha
  · cases ha
theorem sk_put (C : Cx p s m args c y) (E : Evn D cA ad vF L xs A s) (O : AdOK ad vF L) (hA : AdIn ad A) (hR : mFr y ≤ R.frames ∧ mLo y ≤ R.locals ∧ cells ≤ R.cells ∧ slots ≤ R.slots) {i : Instr} (hf : fetch y pc = some (i, n)) (hi : ∃ j, i = .putfield j)
    (ha : aStep y i n pc ls st σ = some (pc', (ls', (st', σ')))) (k : Wk p l e R s m args below meth c cells slots Q D cA ad vF L xs A y pc' ls' st' σ') : Wk p l e R s m args below meth c cells slots Q D cA ad vF L xs A y pc ls st σ := by
  intro H locs lsM hL hl hs hW hS
  obtain ⟨hx, hb, hml, hown, hts⟩ := C
  obtain ⟨eK, eS, eR, eZ1, eZ2, eN, eX, eb, ebA⟩ := E
  have hd := fetch_ok hf
  have hn := len_ok hf
  obtain ⟨idx, rfl⟩ := hi
  obtain rfl := il1 hn (Nat.succ_ne_zero _)
  simp only [aStep, aPut] at ha
  split at ha
  · rename_i v t r st0
    obtain ⟨h0, h1, h2⟩ := okV2 hs
    split at ha
    · cases ha
    · rename_i o9 kf ps hlk
      split at ha
      · rename_i ho
        obtain rfl : ocl t = o9 := by simpa using ho
        obtain ⟨w1, w2, w3⟩ := fk_spec hlk
        have hv := okR_obj h1 w3
        have h33 : ¬ t = 33 := by have := vld_lt hv; omega
        split at ha
        · rename_i b hk
          split at ha
          · rename_i hb9
            cases ha
            have he := wld_at (cA := cA) (ad := ad) (σ := σ) hv
            rw [cel_obj (fd_obj hk)] at he
            obtain ⟨ty0, q1, q2⟩ := vw_ty (ocl t) w3
            obtain ⟨f1, f2⟩ := fd_spec hk
            have hnf : narrow (if b == 0 then .int else .boolean) (.int (Int32.ofInt v)) = .int (Int32.ofInt v) ∧ fits (if b == 0 then .int else .boolean) (.int (Int32.ofInt v)) = true := by
              by_cases hb0 : (b == 0) = true
              · rw [if_pos hb0]; exact ⟨rfl, rfl⟩
              · rw [if_neg hb0]
                simp only [hb0, Bool.false_or, Bool.or_eq_true, decide_eq_true_eq] at hb9
                rcases hb9 with rfl | rfl <;> exact ⟨by decide, by decide⟩
            rw [List.map_cons, List.map_cons, cvv_r h33]
            have hset := wld_set (cA := cA) (ad := ad) (σ := σ) (σ' := up σ t r kf v) hv up_ne
            rw [cel_up_obj hk] at hset
            exact va_put (D := D) (ci := ocl t) (C := (vwD (ocl t)).1) (T := (vwD (ocl t)).2.1) (N := (vwD (ocl t)).2.2) hx hb hts (wu_all _ w3) ty0 q1 q2 hown eK hW.1 (wld_D O hA σ) hS (wpos t r) he (vw_at _ w3) kf w2 (hts _ w1) (fun _ h9 => h9) f2 f1 hnf.1 hnf.2 (by rw [List.length_mapIdx]; exact (List.getElem?_eq_some_iff.mp hk).1) hd
              (fun H1 locs1 p1 p2 p3 => k H1 locs1 lsM hL hl h2 ⟨hset ▸ p1, fun j hj => (up_ne 32 0 (fun z => by have := vld_lt hv; omega) j).trans (hW.2.1 j hj), (up_ne 32 1 (fun z => by have := vld_lt hv; omega) 0).trans hW.2.2.1, okS_up hW.2.2.2 h0⟩ p3)
          · cases ha
        · cases ha
      · cases ha
  · cases ha
theorem sk_arr (C : Cx p s m args c y) (E : Evn D cA ad vF L xs A s) (O : AdOK ad vF L) (hA : AdIn ad A) (hR : mFr y ≤ R.frames ∧ mLo y ≤ R.locals ∧ cells ≤ R.cells ∧ slots ≤ R.slots) {i : Instr} (hf : fetch y pc = some (i, n)) (hi : i = .iaload ∨ i = .iastore ∨ i = .baload ∨ i = .arraylength)
    (ha : aStep y i n pc ls st σ = some (pc', (ls', (st', σ')))) (k : Wk p l e R s m args below meth c cells slots Q D cA ad vF L xs A y pc' ls' st' σ') : Wk p l e R s m args below meth c cells slots Q D cA ad vF L xs A y pc ls st σ := by
  intro H locs lsM hL hl hs hW hS
  obtain ⟨hx, hb, hml, hown, hts⟩ := C
  obtain ⟨eK, eS, eR, eZ1, eZ2, eN, eX, eb, ebA⟩ := E
  have hd := fetch_ok hf
  have hn := len_ok hf
  rcases hi with rfl | rfl | rfl | rfl
  · obtain rfl := il1 hn (Nat.succ_ne_zero _)
    simp only [aStep, aIld] at ha
    split at ha
    · rename_i i0 t r st0
      obtain ⟨h0, h1, h2⟩ := okV2 hs
      by_cases ht : t = 32
      · subst ht
        simp only [beq_self_eq_true, if_true] at ha
        by_cases hin : 0 ≤ i0 ∧ i0 < σ 32 1 0
        · rw [if_pos hin] at ha
          cases ha
          obtain rfl : r = 0 := by
            rcases h1 with h | h | h | h | h
            · have := vld_lt h; omega
            · omega
            · exact h.2
            · omega
            · omega
          have kk := k H locs lsM hL hl (okVc (v := .inl (σ 32 0 i0.toNat)) (hW.2.2.2 _ _ _) h2) hW hS
          have hlt : i0.toNat < L := by have := hW.2.2.1; omega
          rw [List.map_cons, show cvv ad vF (.inl (σ 32 0 i0.toNat)) = .int (xs (Int32.ofInt i0).toNatClampNeg) from congrArg Value.int (by rw [hW.2.1 _ hlt, I_clamp h0, Int32.ofInt_toInt])] at kk
          exact va_sld hx hb eX eb ebA hS (I_in h0 hin.1 (by have := hW.2.2.1; omega)) hd kk
        · rw [if_neg hin] at ha; cases ha
      · have ht2 : ¬ (t == 32) = true := by simpa using ht
        simp only [if_neg ht2] at ha
        by_cases hin : 0 ≤ i0 ∧ i0 < (alen t : Int)
        · rw [if_pos hin] at ha
          cases ha
          have hal : alen t ≠ 0 := by omega
          have hv := okR_arr h1 hal
          have h33 : ¬ t = 33 := by have := vld_lt hv; omega
          have he := wld_at (cA := cA) (ad := ad) (σ := σ) hv
          rw [cel_arr hal] at he
          have kk := k H locs lsM hL hl (okVc (v := .inl (σ t r i0.toNat)) (hW.2.2.2 _ _ _) h2) hW hS
          rw [List.map_cons, show cvv ad vF (.inl (σ t r i0.toNat)) = .int ((fun j => Int32.ofInt (σ t r j)) (Int32.ofInt i0).toNatClampNeg) from congrArg Value.int (by rw [I_clamp h0])] at kk
          rw [List.map_cons, List.map_cons, cvv_r h33]
          exact va_iald hx hb eK hW.1 (wpos t r) 0 he rfl (I_in h0 hin.1 hin.2) hd kk
        · rw [if_neg hin] at ha; cases ha
    · cases ha
  · obtain rfl := il1 hn (Nat.succ_ne_zero _)
    simp only [aStep, aIst] at ha
    split at ha
    · rename_i v i0 t r st0
      obtain ⟨h0, hs2⟩ := okV1 hs
      obtain ⟨h3, h1, h2⟩ := okV2 hs2
      split at ha
      · rename_i hin
        cases ha
        have hal : alen t ≠ 0 := by omega
        have hv := okR_arr h1 hal
        have h33 : ¬ t = 33 := by have := vld_lt hv; omega
        have he := wld_at (cA := cA) (ad := ad) (σ := σ) hv
        rw [cel_arr hal] at he
        have hset := wld_set (cA := cA) (ad := ad) (σ := σ) (σ' := up σ t r i0.toNat v) hv up_ne
        rw [cel_up_arr hal, ← I_clamp h3] at hset
        rw [List.map_cons, List.map_cons, List.map_cons, cvv_r h33]
        exact va_iast hx hb eK hW.1 (wld_D O hA σ) hS (wpos t r) 0 he rfl (I_in h3 hin.1 hin.2) hd
          (fun H1 locs1 p1 p2 p3 => k H1 locs1 lsM hL hl h2 ⟨by rw [hset] at p1; rw [I_clamp h3] at p1; exact p1, fun j hj => (up_ne 32 0 (fun z => by have := vld_lt hv; omega) j).trans (hW.2.1 j hj), (up_ne 32 1 (fun z => by have := vld_lt hv; omega) 0).trans hW.2.2.1, okS_up hW.2.2.2 h0⟩ p3)
      · cases ha
    · cases ha
  · obtain rfl := il1 hn (Nat.succ_ne_zero _)
    simp only [aStep, aBld] at ha
    split at ha
    · rename_i i0 t r st0
      obtain ⟨h0, h1, h2⟩ := okV2 hs
      split at ha
      · rename_i hc
        obtain rfl : t = 31 := by simpa using hc
        have hr : r < 8 := okR_str h1 (Or.inr rfl)
        split at ha
        · rename_i hin
          cases ha
          exact va_tb hx hb (eS.1 r hr).2.2.2 hS (I_in h0 hin.1 hin.2) (by show Value.int _ = _; rw [I_clamp h0, strB32_at]; rfl) hd (k H locs lsM hL hl (okVc (v := .inl (sbyt r i0.toNat)) (sbyt_ok _ _) h2) hW hS)
        · cases ha
      · cases ha
    · cases ha
  · obtain rfl := il1 hn (Nat.succ_ne_zero _)
    simp only [aStep, aLen] at ha
    split at ha
    · rename_i t r st0
      obtain ⟨h1, h2⟩ := okV1 hs
      split at ha
      · rename_i ht
        obtain rfl : t = 31 := by simpa using ht
        have hr : r < 8 := okR_str h1 (Or.inr rfl)
        cases ha
        have := slen_ok r hr
        exact va_tlen hx hb (eS.1 r hr).2.2.2 hS (I_nat _) hd (k H locs lsM hL hl (okVc (v := .inl (slen r : Int)) ⟨by omega, by omega⟩ h2) hW hS)
      · split at ha
        · rename_i ht
          obtain rfl : t = 32 := by simpa using ht
          cases ha
          obtain rfl : r = 0 := by
            rcases h1 with h | h | h | h | h
            · have := vld_lt h; omega
            · omega
            · exact h.2
            · omega
            · omega
          have kk := k H locs lsM hL hl (okVc (v := .inl (σ 32 1 0)) (hW.2.2.2 _ _ _) h2) hW hS
          rw [List.map_cons, show cvv ad vF (.inl (σ 32 1 0)) = .int (Int32.ofNat L) from congrArg Value.int (by rw [hW.2.2.1, I_nat])] at kk
          exact va_slen hx hb eX eb ebA hS hd kk
        · split at ha
          · cases ha
          · rename_i hal0
            have hal : alen t ≠ 0 := by simpa using hal0
            cases ha
            have hv := okR_arr h1 hal
            have h33 : ¬ t = 33 := by have := vld_lt hv; omega
            have he := wld_at (cA := cA) (ad := ad) (σ := σ) hv
            rw [cel_arr hal] at he
            have hlt : alen t < 100 := by
              have h9 : ∀ t, t < 23 → alen t < 100 := by decide +kernel
              exact h9 t (vld_lt hv)
            rw [List.map_cons, cvv_r h33]
            exact va_alen hx hb eK hW.1 (wpos t r) 0 he rfl (I_nat _) hd (k H locs lsM hL hl (okVc (v := .inl (alen t : Int)) ⟨by omega, by omega⟩ h2) hW hS)
    · cases ha
theorem sk_cst (C : Cx p s m args c y) (E : Evn D cA ad vF L xs A s) (O : AdOK ad vF L) (hA : AdIn ad A) (hR : mFr y ≤ R.frames ∧ mLo y ≤ R.locals ∧ cells ≤ R.cells ∧ slots ≤ R.slots) {i : Instr} (hf : fetch y pc = some (i, n)) (hi : (∃ j, i = .getstatic j) ∨ (∃ j, i = .ldc j) ∨ (∃ j, i = .ldc_w j) ∨ (∃ j, i = .ldc2_w j))
    (ha : aStep y i n pc ls st σ = some (pc', (ls', (st', σ')))) (k : Wk p l e R s m args below meth c cells slots Q D cA ad vF L xs A y pc' ls' st' σ') : Wk p l e R s m args below meth c cells slots Q D cA ad vF L xs A y pc ls st σ := by
  intro H locs lsM hL hl hs hW hS
  obtain ⟨hx, hb, hml, hown, hts⟩ := C
  obtain ⟨eK, eS, eR, eZ1, eZ2, eN, eX, eb, ebA⟩ := E
  have hd := fetch_ok hf
  have hn := len_ok hf
  rcases hi with ⟨idx, rfl⟩ | ⟨idx, rfl⟩ | ⟨idx, rfl⟩ | ⟨idx, rfl⟩
  · obtain rfl := il1 hn (Nat.succ_ne_zero _)
    simp only [aStep, aGs] at ha
    split at ha
    · rename_i hc
      have hc : mC y = 7 := by simpa using hc
      have hown' : s.vm.findClass RJ0 = some m.cls := by rw [hc] at hown; exact hown
      split at ha
      · rename_i h9
        obtain rfl : idx = 38 := by simpa using h9
        cases ha
        exact va_gets hx hb eZ1 hS hown' (hts _ wJs_all.2.2.1) (fun _ h9 => h9) hd (k H locs lsM hL hl (okVc (v := .inl 1) ⟨by omega, by omega⟩ hs) hW hS)
      · split at ha
        · rename_i h9
          obtain rfl : idx = 1053 := by simpa using h9
          cases ha
          exact va_gets hx hb eZ2 hS hown' (hts _ wJs_all.2.2.2) (fun _ h9 => h9) hd (k H locs lsM hL hl (okVc (v := .inr (.inl (33, 0))) (Or.inr (Or.inr (Or.inr (Or.inl rfl)))) hs) hW hS)
        · cases ha
    · cases ha
  · obtain rfl := il1 hn (Nat.succ_ne_zero _)
    simp only [aStep, aLdc] at ha
    split at ha
    · rename_i v ps hlk
      cases ha
      obtain ⟨w1, w2⟩ := ck_spec hlk
      exact lv_ldc hx hb hown (hts _ w1) hd (k H locs lsM hL hl (okVc w2 hs) hW hS)
    · split at ha
      · rename_i hc
        simp only [Bool.and_eq_true, beq_iff_eq] at hc
        have hown' : s.vm.findClass RX0 = some m.cls := by rw [hc.1] at hown; exact hown
        split at ha
        · rename_i j hj
          cases ha
          obtain ⟨q, q1, q2⟩ := idxOf_spec _ _ _ hj
          have hj8 : j < 8 := by have := (List.getElem?_eq_some_iff.mp q2).1; have h8 : strI.length = 8 := rfl; omega
          have hR := eR j hj8
          have he : strI.getD j 0 = idx := by rw [List.getD_eq_getElem?_getD, q1, Nat.zero_add, q2]; rfl
          rw [he] at hR
          exact va_ldcS hx hb hown' hR hd (k H locs lsM hL hl (okVc (v := .inr (.inl (30, j))) (Or.inr (Or.inl ⟨Or.inl rfl, hj8⟩)) hs) hW hS)
        · cases ha
      · cases ha
  · obtain rfl := il1 hn (Nat.succ_ne_zero _)
    simp only [aStep, aLdc] at ha
    split at ha
    · rename_i v ps hlk
      cases ha
      obtain ⟨w1, w2⟩ := ck_spec hlk
      exact lv_ldcw hx hb hown (hts _ w1) hd (k H locs lsM hL hl (okVc w2 hs) hW hS)
    · simp at ha
  · obtain rfl := il1 hn (Nat.succ_ne_zero _)
    simp only [aStep, aLd2] at ha
    split at ha
    · rename_i v ps hlk
      cases ha
      obtain ⟨w1, w2⟩ := cl_spec hlk
      exact lv_ldc2 hx hb hown (hts _ w1) hd (k H locs lsM hL hl (okVc (v := .inr (.inr v)) w2 hs) hW hS)
    · cases ha
theorem sk_nat (C : Cx p s m args c y) (E : Evn D cA ad vF L xs A s) (O : AdOK ad vF L) (hA : AdIn ad A) (hR : mFr y ≤ R.frames ∧ mLo y ≤ R.locals ∧ cells ≤ R.cells ∧ slots ≤ R.slots) {i : Instr} (hf : fetch y pc = some (i, n)) (hi : ∃ j, i = .invokestatic j)
    (ha : aStep y i n pc ls st σ = some (pc', (ls', (st', σ')))) (k : Wk p l e R s m args below meth c cells slots Q D cA ad vF L xs A y pc' ls' st' σ') : Wk p l e R s m args below meth c cells slots Q D cA ad vF L xs A y pc ls st σ := by
  intro H locs lsM hL hl hs hW hS
  obtain ⟨hx, hb, hml, hown, hts⟩ := C
  obtain ⟨eK, eS, eR, eZ1, eZ2, eN, eX, eb, ebA⟩ := E
  have hd := fetch_ok hf
  have hn := len_ok hf
  obtain ⟨idx, rfl⟩ := hi
  obtain rfl := il1 hn (Nat.succ_ne_zero _)
  have hsz : c.maxLocals = lsM.size := hml.trans hL.2.1.symm
  simp only [aStep] at ha
  split at ha
  · rename_i hc
    simp only [Bool.and_eq_true, beq_iff_eq] at hc
    obtain ⟨⟨⟨hc1, rfl⟩, hc3⟩, hc4⟩ := hc
    have hown' : s.vm.findClass RX2 = some m.cls := by rw [hc1] at hown; exact hown
    have hfr : 1 ≤ mFr y := Nat.le_of_ble_eq_true hc3
    have hlo : 48 ≤ mLo y := Nat.le_of_ble_eq_true hc4
    have hw := wAr
    rw [Bool.and_eq_true, Bool.and_eq_true, Bool.and_eq_true] at hw
    unfold aCpy at ha
    split at ha
    · rename_i nn dp t r sp t0 r0 st0
      obtain ⟨g1, g2, hs2⟩ := okV2 hs
      obtain ⟨g3, g4, hs3⟩ := okV2 hs2
      obtain ⟨g5, g6⟩ := okV1 hs3
      split at ha
      · rename_i hin
        obtain ⟨b1, b2, b3, b4, b5, b6, b7, b8⟩ := hin
        have hnil := List.length_eq_zero_iff.mp b8
        subst hnil
        cases ha
        have hv := okR_arr g3 b7
        have hv0 := okR_arr g5 b6
        have h33 : ¬ t = 33 := by have := vld_lt hv; omega
        have h330 : ¬ t0 = 33 := by have := vld_lt hv0; omega
        have he := wld_at (cA := cA) (ad := ad) (σ := σ) hv
        rw [cel_arr b7] at he
        have he0 := wld_at (cA := cA) (ad := ad) (σ := σ) hv0
        rw [cel_arr b6] at he0
        have hset := wld_set (cA := cA) (ad := ad) (σ := σ) (σ' := cpy σ t0 r0 sp.toNat t r dp.toNat nn.toNat) hv cpy_ne
        rw [cel_cpy b7] at hset
        rw [List.map_cons, List.map_cons, List.map_cons, List.map_cons, List.map_cons, cvv_r h33, cvv_r h330]
        have nz : ∀ {x : Int}, okI x → 0 ≤ x → ¬ Int32.ofInt x < 0 := fun {x} hx0 h0 z => by
          rw [I_0, I_lt hx0 okI_0] at z; omega
        refine va_copyi (ty := .int) hx hb hsz hown' (hts _ (wAt_in hw.1.1.1)) (hts _ (wAt_in hw.1.1.2)) (hts _ (wAt_in hw.1.2)) (hts _ (wAt_in hw.2)) eK hW.1 (wld_D O hA σ) hS (wpos t0 r0) (wpos t r) 0 0 he0 he rfl rfl rfl (nz g4 b3) (nz g2 b2) (nz g1 b1) ?_ ?_ (fun _ _ => rfl) (Nat.le_trans hfr hR.1) ?_ hd
          (fun H1 locs1 p1 p2 p3 => k H1 locs1 lsM hL hl g6 ⟨?_, fun j hj => (cpy_ne 32 0 (fun z => by have := vld_lt hv; omega) j).trans (hW.2.1 j hj), (cpy_ne 32 1 (fun z => by have := vld_lt hv; omega) 0).trans hW.2.2.1, okS_cpy hW.2.2.2⟩ p3)
        · rw [I_clamp g4, I_clamp g1]; omega
        · rw [I_clamp g2, I_clamp g1]; omega
        · have h18 : nativeFrameWords "java/lang/System" "arraycopy" 5 = 7 := by decide +kernel
          rw [h18]
          show 0 + (7 + 11) ≤ R.locals
          have := hR.2.1
          omega
        · rw [I_clamp g4, I_clamp g2, I_clamp g1, hset] at p1
          exact p1
      · cases ha
    · cases ha
  · unfold aPrm at ha
    split at ha
    · cases ha
    · rename_i w ps hlk
      have hw0 := pm_spec hlk
      have hw := wPm2
      rw [Bool.and_eq_true, Bool.and_eq_true, Bool.and_eq_true, Bool.and_eq_true] at hw
      split at ha
      · rename_i y0 x0 st0
        obtain ⟨h1, h2, h3⟩ := okV2 hs
        split at ha
        · rename_i hc
          simp only [Bool.and_eq_true] at hc
          have hfr : 1 ≤ mFr y := Nat.le_of_ble_eq_true hc.1.1
          have hlo : 21 ≤ mLo y := Nat.le_of_ble_eq_true hc.1.2
          have hlen : st0.length ≤ 4 := Nat.le_of_ble_eq_true hc.2
          have hcat : ∀ l : List AV, catS l ≤ 2 * l.length := by
            intro l
            induction l with
            | nil => exact Nat.le_refl _
            | cons a l ih => show (if isLg a = true then 2 else 1) + catS l ≤ 2 * (l.length + 1); split <;> omega
          have hroom : (((st0.map (cvv ad vF)).map fun v => v.category).sum) + 13 ≤ R.locals := by
            rw [cvv_sum O.2.1]
            have := hcat st0
            have := hR.2.1
            omega
          cases ha
          by_cases hw9 : (w == 0) = true
          · rw [if_pos hw9] at hw0 k
            have hok : okI (if x0 < y0 then y0 else x0) := by split; exact h1; exact h2
            have kk := k H locs lsM hL hl (okVc hok h3) hW hS
            rw [List.map_cons, show cvv ad vF (.inl (if x0 < y0 then y0 else x0)) = .int (if Int32.ofInt x0 < Int32.ofInt y0 then Int32.ofInt y0 else Int32.ofInt x0) from congrArg Value.int (by simp only [I_lt h2 h1]; split <;> rfl)] at kk
            exact va_mmax hx hb hsz hown (hts _ hw0) (hts _ (wAt_in hw.1.1.1.2)) (hts _ (wAt_in hw.1.1.1.1)) (hts _ (wAt_in hw.1.1.2)) (Nat.le_trans hfr hR.1) hroom hR.2.2.1 hR.2.2.2 hd kk
          · rw [if_neg hw9] at hw0 k
            have hok : okI (if y0 < x0 then y0 else x0) := by split; exact h1; exact h2
            have kk := k H locs lsM hL hl (okVc hok h3) hW hS
            rw [List.map_cons, show cvv ad vF (.inl (if y0 < x0 then y0 else x0)) = .int (if Int32.ofInt y0 < Int32.ofInt x0 then Int32.ofInt y0 else Int32.ofInt x0) from congrArg Value.int (by simp only [I_lt h1 h2]; split <;> rfl)] at kk
            exact va_mmin hx hb hsz hown (hts _ hw0) (hts _ (wAt_in hw.1.2)) (hts _ (wAt_in hw.1.1.1.1)) (hts _ (wAt_in hw.2)) (Nat.le_trans hfr hR.1) hroom hR.2.2.1 hR.2.2.2 hd kk
        · cases ha
      · cases ha
end STEP3
end
section
section MAIN
variable {p : Program} {l : Launch} {e : Env} {R : Room} {s : State} {m : MethodId} {args : Array Value} {below : List Frame} {meth : Method} {c : Code} {cells slots : Nat} {Q : State → Prop}
variable {D : va_G} {cA : ClassId} {ad : Nat → Nat → Nat} {vF : Value} {L : Nat} {xs : Nat → Int32} {A : Nat → Prop} {y : Nat} {pc n : Nat} {ls st : List AV} {σ : St} {pc' : Nat} {ls' st' : List AV} {σ' : St}
theorem sim_step (C : Cx p s m args c y) (E : Evn D cA ad vF L xs A s) (O : AdOK ad vF L) (hA : AdIn ad A) (hR : mFr y ≤ R.frames ∧ mLo y ≤ R.locals ∧ cells ≤ R.cells ∧ slots ≤ R.slots) {i : Instr} (hf : fetch y pc = some (i, n)) (ha : aStep y i n pc ls st σ = some (pc', (ls', (st', σ')))) (k : Wk p l e R s m args below meth c cells slots Q D cA ad vF L xs A y pc' ls' st' σ') : Wk p l e R s m args below meth c cells slots Q D cA ad vF L xs A y pc ls st σ := by
  cases i
  case iconst v => exact sk_const C O hf (Or.inl ⟨v, rfl⟩) ha k
  case bipush v => exact sk_const C O hf (Or.inr (Or.inl ⟨v, rfl⟩)) ha k
  case sipush v => exact sk_const C O hf (Or.inr (Or.inr (Or.inl ⟨v, rfl⟩))) ha k
  case lconst v => exact sk_const C O hf (Or.inr (Or.inr (Or.inr (⟨v, rfl⟩)))) ha k
  case iload j => exact sk_ld C O hf (Or.inl ⟨j, rfl⟩) ha k
  case iload_n j => exact sk_ld C O hf (Or.inr (Or.inl ⟨j, rfl⟩)) ha k
  case aload j => exact sk_ld C O hf (Or.inr (Or.inr (Or.inl ⟨j, rfl⟩))) ha k
  case aload_n j => exact sk_ld C O hf (Or.inr (Or.inr (Or.inr (Or.inl ⟨j, rfl⟩)))) ha k
  case lload j => exact sk_ld C O hf (Or.inr (Or.inr (Or.inr (Or.inr (Or.inl ⟨j, rfl⟩))))) ha k
  case lload_n j => exact sk_ld C O hf (Or.inr (Or.inr (Or.inr (Or.inr (Or.inr (⟨j, rfl⟩)))))) ha k
  case istore j => exact sk_st C O hf (Or.inl ⟨j, rfl⟩) ha k
  case istore_n j => exact sk_st C O hf (Or.inr (Or.inl ⟨j, rfl⟩)) ha k
  case astore j => exact sk_st C O hf (Or.inr (Or.inr (Or.inl ⟨j, rfl⟩))) ha k
  case astore_n j => exact sk_st C O hf (Or.inr (Or.inr (Or.inr (Or.inl ⟨j, rfl⟩)))) ha k
  case lstore j => exact sk_st C O hf (Or.inr (Or.inr (Or.inr (Or.inr (Or.inl ⟨j, rfl⟩))))) ha k
  case lstore_n j => exact sk_st C O hf (Or.inr (Or.inr (Or.inr (Or.inr (Or.inr (Or.inl ⟨j, rfl⟩)))))) ha k
  case iinc j v => exact sk_st C O hf (Or.inr (Or.inr (Or.inr (Or.inr (Or.inr (Or.inr (⟨j, v, rfl⟩))))))) ha k
  case dup => exact sk_stk C O hf (Or.inl rfl) ha k
  case dup2 => exact sk_stk C O hf (Or.inr (Or.inl rfl)) ha k
  case pop => exact sk_stk C O hf (Or.inr (Or.inr (rfl))) ha k
  case iadd => exact sk_bin C O hf (Or.inl rfl) ha k
  case isub => exact sk_bin C O hf (Or.inr (Or.inl rfl)) ha k
  case imul => exact sk_bin C O hf (Or.inr (Or.inr (Or.inl rfl))) ha k
  case idiv => exact sk_bin C O hf (Or.inr (Or.inr (Or.inr (Or.inl rfl)))) ha k
  case irem => exact sk_bin C O hf (Or.inr (Or.inr (Or.inr (Or.inr (Or.inl rfl))))) ha k
  case iand => exact sk_bin C O hf (Or.inr (Or.inr (Or.inr (Or.inr (Or.inr (Or.inl rfl)))))) ha k
  case ior => exact sk_bin C O hf (Or.inr (Or.inr (Or.inr (Or.inr (Or.inr (Or.inr (Or.inl rfl))))))) ha k
  case ixor => exact sk_bin C O hf (Or.inr (Or.inr (Or.inr (Or.inr (Or.inr (Or.inr (Or.inr (Or.inl rfl)))))))) ha k
  case ishl => exact sk_bin C O hf (Or.inr (Or.inr (Or.inr (Or.inr (Or.inr (Or.inr (Or.inr (Or.inr (Or.inl rfl))))))))) ha k
  case ishr => exact sk_bin C O hf (Or.inr (Or.inr (Or.inr (Or.inr (Or.inr (Or.inr (Or.inr (Or.inr (Or.inr (Or.inl rfl)))))))))) ha k
  case iushr => exact sk_bin C O hf (Or.inr (Or.inr (Or.inr (Or.inr (Or.inr (Or.inr (Or.inr (Or.inr (Or.inr (Or.inr (rfl))))))))))) ha k
  case ladd => exact sk_binL C O hf (Or.inl rfl) ha k
  case lsub => exact sk_binL C O hf (Or.inr (Or.inl rfl)) ha k
  case lmul => exact sk_binL C O hf (Or.inr (Or.inr (Or.inl rfl))) ha k
  case ldiv => exact sk_binL C O hf (Or.inr (Or.inr (Or.inr (Or.inl rfl)))) ha k
  case lrem => exact sk_binL C O hf (Or.inr (Or.inr (Or.inr (Or.inr (rfl))))) ha k
  case ineg => exact sk_un C O hf (Or.inl rfl) ha k
  case i2b => exact sk_un C O hf (Or.inr (Or.inl rfl)) ha k
  case i2c => exact sk_un C O hf (Or.inr (Or.inr (Or.inl rfl))) ha k
  case i2l => exact sk_un C O hf (Or.inr (Or.inr (Or.inr (Or.inl rfl)))) ha k
  case lcmp => exact sk_un C O hf (Or.inr (Or.inr (Or.inr (Or.inr (rfl))))) ha k
  case ifCond q off => exact sk_br C O hf (Or.inl ⟨q, off, rfl⟩) ha k
  case if_icmp q off => exact sk_br C O hf (Or.inr (⟨q, off, rfl⟩)) ha k
  case goto off => exact sk_jmp C O hf (Or.inl ⟨off, rfl⟩) ha k
  case tableswitch d lo hi offs => exact sk_jmp C O hf (Or.inr (Or.inl ⟨d, lo, hi, offs, rfl⟩)) ha k
  case lookupswitch d ps => exact sk_jmp C O hf (Or.inr (Or.inr (⟨d, ps, rfl⟩))) ha k
  case getfield j => exact sk_get C E O hA hR hf (⟨j, rfl⟩) ha k
  case putfield j => exact sk_put C E O hA hR hf (⟨j, rfl⟩) ha k
  case iaload => exact sk_arr C E O hA hR hf (Or.inl rfl) ha k
  case iastore => exact sk_arr C E O hA hR hf (Or.inr (Or.inl rfl)) ha k
  case baload => exact sk_arr C E O hA hR hf (Or.inr (Or.inr (Or.inl rfl))) ha k
  case arraylength => exact sk_arr C E O hA hR hf (Or.inr (Or.inr (Or.inr (rfl)))) ha k
  case getstatic j => exact sk_cst C E O hA hR hf (Or.inl ⟨j, rfl⟩) ha k
  case ldc j => exact sk_cst C E O hA hR hf (Or.inr (Or.inl ⟨j, rfl⟩)) ha k
  case ldc_w j => exact sk_cst C E O hA hR hf (Or.inr (Or.inr (Or.inl ⟨j, rfl⟩))) ha k
  case ldc2_w j => exact sk_cst C E O hA hR hf (Or.inr (Or.inr (Or.inr (⟨j, rfl⟩)))) ha k
  case invokestatic j => exact sk_nat C E O hA hR hf (⟨j, rfl⟩) ha k
  all_goals (exact absurd ha (by simp [aStep]))
end MAIN
theorem spr_len : ∀ (as : List AV), (spr as).length = catS as := by
  intro as
  induction as with
  | nil => rfl
  | cons v l ih =>
    unfold spr catS
    split
    · rw [List.length_cons, List.length_cons, ih]; omega
    · rw [List.length_cons, ih]; omega
theorem lvo_rep {ad : Nat → Nat → Nat} {vF : Value} : ∀ (k i : Nat), lvo ad vF i (List.replicate k uns) = [] := by
  intro k
  induction k with
  | zero => intro i; rfl
  | succ k ih =>
    intro i
    rw [List.replicate_succ]
    unfold lvo
    rw [if_pos (by rfl)]
    exact ih _
theorem lvo_args {ad : Nat → Nat → Nat} {vF : Value} (hF : okF vF) (k : Nat) : ∀ (as : List AV) (i : Nat), ∀ q ∈ lvo ad vF i (spr as ++ List.replicate k uns), q ∈ lv_args i (as.map (cvv ad vF)) := by
  intro as
  induction as with
  | nil => intro i q hq; rw [show spr [] = [] from rfl, List.nil_append, lvo_rep] at hq; cases hq
  | cons v l ih =>
    intro i q hq
    rw [List.map_cons]
    unfold lv_args
    unfold spr at hq
    rw [cvv_cat hF]
    by_cases hl : isLg v = true
    · rw [if_pos hl] at hq ⊢
      rw [if_pos rfl]
      have hu : isU v = false := by
        rcases v with x | ⟨t, r⟩ | w
        · rfl
        · cases hl
        · rfl
      rw [List.cons_append, List.cons_append] at hq
      unfold lvo at hq
      rw [if_neg (by rw [hu]; decide)] at hq
      rcases List.mem_cons.mp hq with h | h
      · rw [h]; exact List.mem_cons_self
      · unfold lvo at h
        rw [if_pos (by rfl)] at h
        exact List.mem_cons_of_mem _ (ih _ q h)
    · rw [if_neg hl] at hq ⊢
      rw [if_neg (by decide)]
      rw [List.cons_append] at hq
      unfold lvo at hq
      by_cases hu : isU v = true
      · rw [if_pos hu] at hq
        exact List.mem_cons_of_mem _ (ih _ q hq)
      · rw [if_neg hu] at hq
        rcases List.mem_cons.mp hq with h | h
        · rw [h]; exact List.mem_cons_self
        · exact List.mem_cons_of_mem _ (ih _ q h)
theorem lg_sl_len {ad : Nat → Nat → Nat} {vF : Value} (hF : okF vF) : ∀ (as : List AV), (lg_sl (as.map (cvv ad vF))).length = catS as := by
  intro as
  induction as with
  | nil => rfl
  | cons v l ih =>
    have e : lg_sl ((v :: l).map (cvv ad vF)) = (if (cvv ad vF v).category = 2 then [Slot.val (cvv ad vF v), Slot.second] else [Slot.val (cvv ad vF v)]) ++ lg_sl (l.map (cvv ad vF)) := rfl
    rw [e, List.length_append, ih, cvv_cat hF]
    have e2 : catS (v :: l) = (if isLg v = true then 2 else 1) + catS l := rfl
    rw [e2]
    by_cases hl : isLg v = true
    · rw [if_pos hl]; rfl
    · rw [if_neg hl]; rfl
theorem LR_ent {ad : Nat → Nat → Nat} {vF : Value} (hF : okF vF) (y : Nat) (as : List AV) (h : catS as ≤ mL y) : LR ad vF (mL y) (ent y as) ((lg_sl (as.map (cvv ad vF)) ++ List.replicate (mL y - (lg_sl (as.map (cvv ad vF))).length) Slot.unset).toArray) := by
  refine ⟨?_, lv_mono (lv_entry (as.map (cvv ad vF)) (n := mL y) (by rw [lg_sl_len hF]; exact h)) (fun q hq => lvo_args hF _ as 0 q hq)⟩
  unfold ent
  rw [List.length_append, List.length_replicate, spr_len]
  omega
theorem ent_ok {y : Nat} {as : List AV} (h : ∀ v ∈ as, okV v) : ∀ v ∈ ent y as, okV v := by
  have hu : okV uns := Or.inr (Or.inr (Or.inr (Or.inr rfl)))
  have h1 : ∀ (l : List AV), (∀ v ∈ l, okV v) → ∀ v ∈ spr l, okV v := by
    intro l
    induction l with
    | nil => intro _ v hv; cases hv
    | cons a l ih =>
      intro ha v hv
      obtain ⟨a1, a2⟩ := okV1 ha
      unfold spr at hv
      split at hv
      · rcases List.mem_cons.mp hv with h | h
        · rw [h]; exact a1
        · rcases List.mem_cons.mp h with h | h
          · rw [h]; exact hu
          · exact ih a2 v h
      · rcases List.mem_cons.mp hv with h | h
        · rw [h]; exact a1
        · exact ih a2 v h
  intro v hv
  unfold ent at hv
  rcases List.mem_append.mp hv with h2 | h2
  · exact h1 as h v h2
  · rw [(List.mem_replicate.mp h2).2]; exact hu
end
section
/-! what is known of every method by its number -/
theorem wn_spec {y : Nat} (hy : y < NM) : wNam y = true ∧ rtK (mK y) (mRt y) = true := by
  have key : ∀ (a : Nat) (h : (((List.range 221).drop a).take 60).all (fun y => wNam y && rtK (mK y) (mRt y)) = true), a ≤ y → y < a + 60 → wNam y = true ∧ rtK (mK y) (mRt y) = true := by
    intro a h h1 h2
    have hm : y ∈ ((List.range 221).drop a).take 60 := by
      refine List.mem_of_getElem? (i := y - a) ?_
      rw [List.getElem?_take, if_pos (by omega), List.getElem?_drop, List.getElem?_range (by have : NM = 221 := rfl; omega)]
      congr 1
      omega
    have h3 := List.all_eq_true.mp h y hm
    rw [Bool.and_eq_true] at h3
    exact h3
  have hN : NM = 221 := rfl
  rcases Nat.lt_or_ge y 60 with q | q
  · exact key 0 wn_0 (by omega) (by omega)
  · rcases Nat.lt_or_ge y 120 with q2 | q2
    · exact key 60 wn_1 (by omega) (by omega)
    · rcases Nat.lt_or_ge y 180 with q3 | q3
      · exact key 120 wn_2 (by omega) (by omega)
      · exact key 180 wn_3 (by omega) (by omega)
theorem wNam_spec {y : Nat} (hy : y < NM) : (mN y).cls = cN (mC y) ∧ plainName (mN y).cls = true ∧ (mN y).cls ≠ "java/lang/invoke/MethodHandle" ∧ (mN y).cls ≠ "java/lang/invoke/VarHandle" ∧ (parseMethodDescriptor (mN y).desc).map (fun d => d.parameters.length) = some (if mSt y = true then mNA y else mNA y - 1) ∧ (mSt y = true ∨ 1 ≤ mNA y) := by
  have h := (wn_spec hy).1
  unfold wNam at h
  simp only [Bool.and_eq_true] at h
  obtain ⟨⟨⟨⟨⟨⟨h1, h2⟩, h3⟩, h4⟩, h5⟩, h6⟩, -⟩ := h
  refine ⟨of_decide_eq_true h1, h2, of_decide_eq_true h3, of_decide_eq_true h4, of_decide_eq_true h5, ?_⟩
  by_cases q : mSt y = true
  · exact Or.inl q
  · rw [if_neg q] at h6; exact Or.inr (Nat.le_of_ble_eq_true h6)
theorem wc_spec {y : Nat} (hy : y < 220) : Cond.code (mN y) (mB y) (mL y) (mRt y) ∈ lwg ∧ Cond.initialized (mN y).cls ∈ lwg ∧ (mSt y = true → Cond.static (mN y) ∈ lwg) ∧ (mSt y = false → Cond.instanceMethod (mN y) ∈ lwg ∧ Cond.selects (mN y).cls (mN y) (mN y) ∈ lwg) := by
  have hc : wCode y = true ∧ wFace y = true := by
    have key : ∀ {l : List Nat} {f : Nat → Bool}, l.all (fun y => f y) = true → y ∈ l → f y = true := fun h hm => List.all_eq_true.mp h y hm
    have cases22 : y / 10 < 22 := by omega
    have hm : ∀ j, y / 10 = j → y ∈ [10 * j, 10 * j + 1, 10 * j + 2, 10 * j + 3, 10 * j + 4, 10 * j + 5, 10 * j + 6, 10 * j + 7, 10 * j + 8, 10 * j + 9] := by
      intro j hj
      simp only [List.mem_cons, List.not_mem_nil, or_false]
      omega
    generalize hj : y / 10 = j at cases22
    have hm := hm j hj
    rcases j with _ | _ | _ | _ | _ | _ | _ | _ | _ | _ | _ | _ | _ | _ | _ | _ | _ | _ | _ | _ | _ | _ | j
    · exact ⟨key wc_0 hm, key wf_0 hm⟩
    · exact ⟨key wc_1 hm, key wf_1 hm⟩
    · exact ⟨key wc_2 hm, key wf_2 hm⟩
    · exact ⟨key wc_3 hm, key wf_3 hm⟩
    · exact ⟨key wc_4 hm, key wf_4 hm⟩
    · exact ⟨key wc_5 hm, key wf_5 hm⟩
    · exact ⟨key wc_6 hm, key wf_6 hm⟩
    · exact ⟨key wc_7 hm, key wf_7 hm⟩
    · exact ⟨key wc_8 hm, key wf_8 hm⟩
    · exact ⟨key wc_9 hm, key wf_9 hm⟩
    · exact ⟨key wc_10 hm, key wf_10 hm⟩
    · exact ⟨key wc_11 hm, key wf_11 hm⟩
    · exact ⟨key wc_12 hm, key wf_12 hm⟩
    · exact ⟨key wc_13 hm, key wf_13 hm⟩
    · exact ⟨key wc_14 hm, key wf_14 hm⟩
    · exact ⟨key wc_15 hm, key wf_15 hm⟩
    · exact ⟨key wc_16 hm, key wf_16 hm⟩
    · exact ⟨key wc_17 hm, key wf_17 hm⟩
    · exact ⟨key wc_18 hm, key wf_18 hm⟩
    · exact ⟨key wc_19 hm, key wf_19 hm⟩
    · exact ⟨key wc_20 hm, key wf_20 hm⟩
    · exact ⟨key wc_21 hm, key wf_21 hm⟩
    · omega
  obtain ⟨h1, h2⟩ := hc
  unfold wCode at h1
  unfold wFace at h2
  rw [Bool.and_eq_true] at h2
  refine ⟨wAt_in h1, wAt_in h2.1, fun hs => ?_, fun hs => ?_⟩
  · have h3 := h2.2
    rw [if_pos hs] at h3
    exact wAt_in h3
  · have h3 := h2.2
    rw [if_neg (by rw [hs]; decide), Bool.and_eq_true] at h3
    exact ⟨wAt_in h3.1, wAt_in h3.2⟩
theorem lk_spec {cc idx y ps : Nat} (h : (lkT.getD cc []).lookup idx = some (y, ps)) : Cond.methodLink (cN cc) idx (mN y) ∈ lwg ∧ y < 220 := by
  have hc := getD_lt h
  have hm : (cc, (idx, (y, ps))) ∈ lkR := by
    have hall : (List.range 11).all (fun cc => (lkT.getD cc []).all (fun q => decide ((cc, (q.1, (q.2.1, q.2.2))) ∈ lkR))) = true := by decide +kernel
    exact of_decide_eq_true (List.all_eq_true.mp (List.all_eq_true.mp hall cc (List.mem_range.mpr hc)) _ (lookup_in _ h))
  have hw : wLnk (cc, (idx, (y, ps))) = true := by
    obtain ⟨i, hi⟩ := List.mem_iff_getElem?.mp hm
    have hlt := (List.getElem?_eq_some_iff.mp hi).1
    have key : ∀ (a : Nat), ((lkR.drop a).take 40).all wLnk = true → a ≤ i → i < a + 40 → wLnk (cc, (idx, (y, ps))) = true := by
      intro a h0 h1 h2
      refine List.all_eq_true.mp h0 _ (List.mem_of_getElem? (i := i - a) ?_)
      rw [List.getElem?_take, if_pos (by omega), List.getElem?_drop, show a + (i - a) = i by omega]
      exact hi
    have hlen : lkR.length ≤ 280 := by decide +kernel
    rcases Nat.lt_or_ge i 40 with q | q
    · exact key 0 wl_0 (by omega) (by omega)
    rcases Nat.lt_or_ge i 80 with q | q
    · exact key 40 wl_1 (by omega) (by omega)
    rcases Nat.lt_or_ge i 120 with q | q
    · exact key 80 wl_2 (by omega) (by omega)
    rcases Nat.lt_or_ge i 160 with q | q
    · exact key 120 wl_3 (by omega) (by omega)
    rcases Nat.lt_or_ge i 200 with q | q
    · exact key 160 wl_4 (by omega) (by omega)
    rcases Nat.lt_or_ge i 240 with q | q
    · exact key 200 wl_5 (by omega) (by omega)
    · exact key 240 wl_6 (by omega) (by omega)
  unfold wLnk at hw
  rw [Bool.and_eq_true] at hw
  exact ⟨wAt_in hw.1, Nat.le_of_ble_eq_true hw.2⟩
theorem ln_spec {cc idx y : Nat} (h : (lkN.getD cc []).lookup idx = some y) : (cc, (idx, y)) ∈ nsT ∧ y < 220 := by
  have hc := getD_lt h
  have hall : (List.range 11).all (fun cc => (lkN.getD cc []).all (fun q => decide ((cc, (q.1, q.2)) ∈ nsT) && decide (q.2 < 220))) = true := by decide +kernel
  have h1 := List.all_eq_true.mp (List.all_eq_true.mp hall cc (List.mem_range.mpr hc)) _ (lookup_in _ h)
  rw [Bool.and_eq_true] at h1
  exact ⟨of_decide_eq_true h1.1, of_decide_eq_true h1.2⟩
theorem rc_spec {t : Nat} (h : rcl t < 11) : (t = 30 ∧ rcl t = 7) ∨ (ocl t < 5 ∧ (vwD (ocl t)).1 = cN (rcl t) ∧ alen t = 0) := by
  have hall : (List.range 31).all (fun t => decide (11 ≤ rcl t) || (decide (t = 30) && decide (rcl t = 7)) || (decide (ocl t < 5) && decide ((vwD (ocl t)).1 = cN (rcl t)) && decide (alen t = 0))) = true := by decide +kernel
  by_cases ht : t < 31
  · have h1 := List.all_eq_true.mp hall t (List.mem_range.mpr ht)
    simp only [Bool.or_eq_true, Bool.and_eq_true, decide_eq_true_eq] at h1
    rcases h1 with (h1 | h1) | h1
    · omega
    · exact Or.inl h1
    · exact Or.inr ⟨h1.1.1, h1.1.2, h1.2⟩
  · unfold rcl at h
    rw [List.getD_eq_getElem?_getD, List.getElem?_eq_none (by have : rcT.length = 31 := rfl; omega)] at h
    exact absurd h (by decide)
/-- what a method answers, and what it leaves -/
def Qc (D : va_G) (cA : ClassId) (ad : Nat → Nat → Nat) (vF : Value) (L : Nat) (xs : Nat → Int32) (rv : Option AV) (σ1 : St) : Array Value → State → Outcome → State → Prop := fun _ st o t => o = .returned (rv.map (cvv ad vF)) ∧ WP D cA ad L xs σ1 t.heap ∧ va_F (Aw ad) st t ∧ ∀ v, rv = some v → okV v
def wsY (y : Nat) : List Cond := .code (mN y) (mB y) (mL y) (mRt y) :: lwg
def rmY (y : Nat) : Room := { frames := mFr y, cells := 0, slots := 0, locals := mLo y }
def PcY (D : va_G) (cA : ClassId) (ad : Nat → Nat → Nat) (vF : Value) (L : Nat) (xs : Nat → Int32) (as : List AV) (σ : St) : Array Value → State → Prop := va_Pc (as.map (cvv ad vF)) (fun U => WP D cA ad L xs σ U.heap ∧ Evn D cA ad vF L xs (Aw ad) U)
/-- the machine runs what the abstract one runs, for n steps of it -/
def PP (l : Launch) (n : Nat) : Prop := ∀ (y pc : Nat) (ls st : List AV) (σ : St) (res : Option AV) (σ' : St), ex n y pc ls st σ = some (res, σ') → y < NM →
  ∀ (p : Program) (e : Env) (R : Room) (s : State) (m : MethodId) (args : Array Value) (below : List Frame) (meth : Method) (c : Code) (cells slots : Nat) (Q : State → Prop) (D : va_G) (cA : ClassId) (ad : Nat → Nat → Nat) (vF : Value) (L : Nat) (xs : Nat → Int32) (A : Nat → Prop),
  Cx p s m args c y → Evn D cA ad vF L xs A s → AdOK ad vF L → AdIn ad A → (mFr y ≤ R.frames ∧ mLo y ≤ R.locals ∧ cells ≤ R.cells ∧ slots ≤ R.slots) →
  (∀ (H : Heap) (locs : List Loc) (lsM : Array Slot) (pc n : Nat) (i : Instr) (st' : List AV), fetch y pc = some (i, n) → aRet y i st' = some res → (∀ v ∈ st', okV v) → WP D cA ad L xs σ' H → va_S A s.heap H locs → W p l e R s m args below meth c H locs cells slots Q (F0 m pc lsM (st'.map (cvv ad vF)))) →
  Wk p l e R s m args below meth c cells slots Q D cA ad vF L xs A y pc ls st σ
theorem PcY_blind {D : va_G} {cA : ClassId} {ad : Nat → Nat → Nat} {vF : Value} {L : Nat} {xs : Nat → Int32} {as : List AV} {σ : St} : FrameBlind (PcY D cA ad vF L xs as σ) := fun a U g mk h => ⟨h.1, h.2.1, h.2.2.calling a g mk⟩
theorem aRet_ok {y : Nat} {i : Instr} {st : List AV} {v : AV} (h : aRet y i st = some (some v)) (hs : ∀ v ∈ st, okV v) : okV v := by
  unfold aRet at h
  split at h
  · split at h <;> cases h
  · split at h
    · cases h; exact hs _ List.mem_cons_self
    · cases h
  · split at h
    · cases h; exact hs _ List.mem_cons_self
    · cases h
  · split at h
    · cases h; exact hs _ List.mem_cons_self
    · cases h
  · cases h
theorem met_of {l : Launch} {n : Nat} (ih : PP l n) {y : Nat} {as : List AV} {σ : St} {rv : Option AV} {σ1 : St} (hex : ex n y 0 (ent y as) [] σ = some (rv, σ1)) (hy : y < NM) (has : ∀ v ∈ as, okV v) (hcat : catS as ≤ mL y) {D : va_G} {cA : ClassId} {ad : Nat → Nat → Nat} {vF : Value} {L : Nat} {xs : Nat → Int32} (O : AdOK ad vF L) :
    Met l (mN y) (wsY y) (rmY y) (PcY D cA ad vF L xs as σ) (Qc D cA ad vF L xs rv σ1) 0 0 (Aw ad) := by
  obtain ⟨n1, n2, n3, n4, n5, n6⟩ := wNam_spec hy
  have nr := (wn_spec hy).2
  refine Met.ofW (cc := mB y) (maxL := mL y) (ret := mRt y) n2 rfl ?_
  intro p e s m args below meth c s₁ B hml hv
  obtain ⟨rfl, hWP, hE⟩ := hv
  have hts := atoms_spec (ws := wsY y) B.pre
  have hown : s.vm.findClass (mN y).cls = some m.cls := findClass_of_methodNamed B.named
  have hlocks := B.notSynchronized
  have hx := B.exec
  have hb := B.bytes
  have hr := B.returns
  rw [n1] at hown
  rw [lg_entry_eq]
  have hL := LR_ent (ad := ad) O.2.1 y as hcat
  refine ih y 0 (ent y as) [] σ rv σ1 hex hy p e _ s m _ below meth c 0 0 _ D cA ad vF L xs (Aw ad) ⟨hx, hb, hml, hown, fun w hw => hts w (List.mem_cons_of_mem _ hw)⟩ hE O AdIn.self ⟨Nat.le_refl _, Nat.le_refl _, Nat.zero_le _, Nat.zero_le _⟩ ?_ _ _ _ hL (ent_ok has) (fun v hv => by cases hv) hWP va_S.rf
  intro H locs lsM pc k i st' hf ha hs hW hS
  have hd := fetch_ok hf
  have hn := len_ok hf
  have hq : ∀ t : State, t.heap = H → s.WarmedH t.vm → ∀ v : Option Value, v = rv.map (cvv ad vF) → Qc D cA ad vF L xs rv σ1 (as.map (cvv ad vF)).toArray s (.returned v) t := fun t ht _ v hv => ⟨by rw [hv], by rw [ht]; exact hW, hS.F ht, fun w hw => aRet_ok (hw ▸ ha) hs⟩
  unfold aRet at ha
  split at ha
  · split at ha
    · rename_i hk
      cases ha
      obtain rfl := il1 hn (Nat.succ_ne_zero _)
      have hk : mK y = 0 := by simpa using hk
      rw [hk] at nr
      exact W.vret hx hb (hr.trans (of_decide_eq_true nr)) (fun t ht hW => hq t ht hW _ rfl) hS.2.2 hd
    · cases ha
  · rename_i v
    split at ha
    · rename_i hk
      cases ha
      obtain rfl := il1 hn (Nat.succ_ne_zero _)
      obtain ⟨okv, -⟩ := okV1 hs
      generalize hkk : mK y = kk at nr hk
      unfold rkOK at hk
      split at hk
      · exact W.iret hx hb (hr.trans (of_decide_eq_true nr)) (fun t ht hW => hq t ht hW _ rfl) hS.2.2 hd
      · refine W.zret (v := Int32.ofInt v) hx hb (hr.trans (of_decide_eq_true nr)) ?_ (fun t ht hW => hq t ht hW _ rfl) hS.2.2 hd
        simp only [Bool.or_eq_true, decide_eq_true_eq] at hk
        rcases hk with rfl | rfl <;> decide
      · refine W.zret (v := Int32.ofInt v) hx hb (hr.trans (of_decide_eq_true nr)) ?_ (fun t ht hW => hq t ht hW _ rfl) hS.2.2 hd
        have hk := of_decide_eq_true hk
        have h2 := (pk_charN (q := v.toNat) (by omega)).1
        have h3 : nI v.toNat = Int32.ofInt v := by
          show Int32.ofNat v.toNat = Int32.ofInt v
          rw [I_nat]
          congr 1
          omega
        rw [h3] at h2
        exact h2
      · refine W.zret (v := Int32.ofInt v) hx hb (hr.trans (of_decide_eq_true nr)) ?_ (fun t ht hW => hq t ht hW _ rfl) hS.2.2 hd
        have hk := of_decide_eq_true hk
        have h2 := pk_nb (Int32.ofInt v)
        have h3 : (Int32.ofInt v).toInt8.toInt32 = Int32.ofInt v := by
          apply Int32.toInt_inj.mp
          rw [Int8.toInt_toInt32, Int32.toInt_toInt8, toI okv]
          exact Int.bmod_eq_of_le (by omega) (by omega)
        rw [h3] at h2
        exact h2
      · cases hk
    · cases ha
  · split at ha
    · rename_i hk
      cases ha
      obtain rfl := il1 hn (Nat.succ_ne_zero _)
      have hk : mK y = 5 := by simpa using hk
      rw [hk] at nr
      exact W.lret hx hb (hr.trans (of_decide_eq_true nr)) (fun t ht hW => hq t ht hW _ rfl) hS.2.2 hd
    · cases ha
  · rename_i t r
    split at ha
    · rename_i hk
      cases ha
      obtain rfl := il1 hn (Nat.succ_ne_zero _)
      simp only [Bool.and_eq_true, beq_iff_eq] at hk
      have h33 : ¬ t = 33 := by have := hk.2; simpa using this
      rw [hk.1] at nr
      have hrt : ∃ nm, mRt y = some (.object nm) := by
        unfold rtK at nr
        cases hq9 : mRt y with
        | none => rw [hq9] at nr; cases nr
        | some ft =>
          rw [hq9] at nr
          cases ft with
          | object nm => exact ⟨nm, rfl⟩
          | _ => cases nr
      obtain ⟨nm, hrt⟩ := hrt
      rw [List.map_cons, cvv_r h33]
      exact W.aret hx hb (hr.trans hrt) (Or.inl ⟨nm, rfl⟩) (Or.inr ⟨_, rfl⟩) (fun t2 ht hW => hq t2 ht hW _ (by show some _ = some _; rw [cvv_r h33])) hS.2.2 hd
    · cases ha
  · cases ha
end
section
theorem aGo_spec {m y : Nat} {st : List AV} {y' : Nat} {as rest : List AV} (h : aGo m y st = some (y', (as, rest))) : y' = y ∧ st = as.reverse ++ rest ∧ as.length = mNA y ∧ mFr y + 1 ≤ mFr m ∧ 19 + mL y + mLo y ≤ mLo m ∧ catS rest ≤ 8 ∧ catS as ≤ mL y := by
  unfold aGo at h
  split at h
  · rename_i hc
    simp only [Bool.and_eq_true] at hc
    obtain ⟨⟨⟨⟨h1, h2⟩, h3⟩, h4⟩, h5⟩ := hc
    have h3 := Nat.le_of_ble_eq_true h3
    cases h
    refine ⟨rfl, by rw [List.reverse_reverse, List.take_append_drop], by rw [List.length_reverse, List.length_take]; omega, Nat.le_of_ble_eq_true h1, Nat.le_of_ble_eq_true h2, Nat.le_of_ble_eq_true h4, Nat.le_of_ble_eq_true h5⟩
  · cases h
theorem nest_use {a h : String} {i : Nat} {x : MethodName} {U : State} {B : Array Value} (hZ : va_Nw (.methodLinkNest a i x h) U) : (Cond.methodLinkNest a i x h).before B U = true := va_Nw.use rfl hZ
section CALL
variable {p : Program} {l : Launch} {e : Env} {R : Room} {s : State} {m : MethodId} {args : Array Value} {below : List Frame} {meth : Method} {c : Code} {cells slots : Nat} {Q : State → Prop}
variable {D : va_G} {cA : ClassId} {ad : Nat → Nat → Nat} {vF : Value} {L : Nat} {xs : Nat → Int32} {A : Nat → Prop} {y : Nat} {pc n : Nat} {ls st : List AV} {σ : St}
/-- behind a call's run -/
theorem call_on {H : Heap} {locs : List Loc} {lsM : Array Slot} {st0 : List Value} {rest : List AV} {a : Array Value} {rv : Option AV} {σ1 : St} (hA : AdIn ad A)
    (hr : va_Run p l e R s m args below meth c H locs cells slots 0 0 (F0 m pc lsM st0) (rest.map (cvv ad vF)) (Qc D cA ad vF L xs rv σ1 a) (Aw ad)) (hS : va_S A s.heap H locs) (hs : ∀ v ∈ rest, okV v) (hL : LR ad vF (mL y) ls lsM) (hl : ∀ v ∈ ls, okV v)
    (k : Wk p l e R s m args below meth c cells slots Q D cA ad vF L xs A y (pc + 3) ls (rv.toList ++ rest) σ1) : W p l e R s m args below meth c H locs cells slots Q (F0 m pc lsM st0) := by
  intro T hT X
  obtain ⟨v, st₀, t, T', L2, h0, X', hL2, e1, e2, ⟨hv, hWP, ⟨hz, hk⟩, hok⟩, stp⟩ := hr T hT X
  have hv : v = rv.map (cvv ad vF) := by cases hv; rfl
  rw [h0] at hz hk
  have hS1 : va_S A s.heap T'.heap (locs ++ L2) := ⟨Nat.le_trans hS.1 (by rw [e1]; exact hz), fun q h1 h2 => by rw [e1, hk q (Nat.lt_of_lt_of_le h1 hS.1) (fun z => h2 (hA.le q z))]; exact hS.2.1 q h1 h2, fun q hq => by
    rcases List.mem_append.mp hq with h | h
    · exact hS.2.2 q h
    · exact hA.le _ (hL2 q h)⟩
  have hst : (rv.toList ++ rest).map (cvv ad vF) = v.toList ++ rest.map (cvv ad vF) := by
    rw [List.map_append, hv]
    cases rv <;> rfl
  have hok2 : ∀ w ∈ rv.toList ++ rest, okV w := fun w hw => by
    rcases List.mem_append.mp hw with h | h
    · cases rv with
      | none => cases h
      | some u => rcases List.mem_cons.mp h with h | h
                  · rw [h]; exact hok u rfl
                  · cases h
    · exact hs w h
  obtain ⟨t2, a1, b1⟩ := k T'.heap (locs ++ L2) lsM hL hl hok2 (by rw [e1]; exact hWP) hS1 T' rfl X'
  rw [hst] at a1
  exact ⟨t2, stp t2 a1, b1⟩
theorem call_sim {y' : Nat} {as rest : List AV} {i : Instr} (C : Cx p s m args c y) (E : Evn D cA ad vF L xs A s) (O : AdOK ad vF L) (hA : AdIn ad A) (hR : mFr y ≤ R.frames ∧ mLo y ≤ R.locals ∧ cells ≤ R.cells ∧ slots ≤ R.slots) (hf : fetch y pc = some (i, n)) (hc : aCall y i st = some (y', (as, rest)))
    {rv : Option AV} {σ1 : St} (hM : y' < NM → (∀ v ∈ as, okV v) → catS as ≤ mL y' → Met l (mN y') (wsY y') (rmY y') (PcY D cA ad vF L xs as σ) (Qc D cA ad vF L xs rv σ1) 0 0 (Aw ad))
    (k : Wk p l e R s m args below meth c cells slots Q D cA ad vF L xs A y (pc + 3) ls (rv.toList ++ rest) σ1) : Wk p l e R s m args below meth c cells slots Q D cA ad vF L xs A y pc ls st σ := by
  intro H locs lsM hL hl hs hW hS
  obtain ⟨hx, hb, hml, hown, hts⟩ := C
  have hd := fetch_ok hf
  have hn := len_ok hf
  have hsz : lsM.size = mL y := hL.2.1
  have fix : CallFix p m c (mB y) (mL y) s args lwg (cN (mC y)) := ⟨hx, hb, hml, hown, hts⟩
  -- what every callee gives
  have face : ∀ y', y' < 220 → mFr y' + 1 ≤ mFr y → 19 + mL y' + mLo y' ≤ mLo y →
      (rmY y').cells = 0 ∧ (rmY y').slots = 0 ∧ (rmY y').frames + 1 ≤ R.frames ∧ 8 + (mL y' + 11) + (rmY y').locals ≤ R.locals ∧ (∀ w ∈ wsY y', ∀ (a' : Array Value) (U : State), s.WarmedH U.vm → w.before a' U = true) ∧ Cond.code (mN y') (mB y') (mL y') (mRt y') ∈ wsY y' ∧
      (Cond.code (mN y') (mB y') (mL y') (mRt y')).before args s = true ∧ (Cond.initialized (mN y').cls).before args s = true ∧ ((mN y').cls ≠ "java/lang/invoke/MethodHandle" ∧ (mN y').cls ≠ "java/lang/invoke/VarHandle") := by
    intro y' hy h1 h2
    obtain ⟨c1, c2, -, -⟩ := wc_spec hy
    obtain ⟨-, -, n3, n4, -, -⟩ := wNam_spec (y := y') (by have : NM = 221 := rfl; omega)
    refine ⟨rfl, rfl, Nat.le_trans h1 hR.1, ?_, ?_, List.mem_cons_self, hts _ c1, hts _ c2, n3, n4⟩
    · have h3 : (rmY y').locals = mLo y' := rfl
      rw [h3]
      have := hR.2.1
      omega
    · refine pay_in (big := lwg) hts (fun w hw => ?_)
      have hm : w ∈ lwg := by
        rcases List.mem_cons.mp hw with h | h
        · rw [h]; exact c1
        · exact h
      exact ⟨hm, good_of_word (List.all_eq_true.mp lwg_all w hm)⟩
  have pcs : ∀ (y' : Nat) (as : List AV) (U : State), U.heap = H → s.WarmedH U.vm → PcY D cA ad vF L xs as σ (as.map (cvv ad vF)).toArray U := fun y' as U hU hWm => ⟨rfl, by rw [hU]; exact hW, E.move hWm (by rw [hU]; exact hS.1) (fun q h1 h2 => by rw [hU]; exact hS.2.1 q h1 h2) hA.le⟩
  unfold aCall at hc
  split at hc
  · rename_i idx
    obtain rfl := il1 hn (Nat.succ_ne_zero _)
    split at hc
    · rename_i y1 ps hlk
      split at hc
      · rename_i hst
        obtain ⟨rfl, hsplit, hlen, hfr, hlo, hcr, hca⟩ := aGo_spec hc
        obtain ⟨w1, w2⟩ := lk_spec hlk
        obtain ⟨f1, f2, f3, f4, f5, f6, f7, f8, f9⟩ := face y' w2 hfr hlo
        obtain ⟨-, -, c3, -⟩ := wc_spec w2
        have hN : y' < NM := by have : NM = 221 := rfl; omega
        obtain ⟨-, -, -, -, n5, -⟩ := wNam_spec hN
        have hsA : ∀ v ∈ as, okV v := fun v hv => hs v (by rw [hsplit]; exact List.mem_append_left _ (List.mem_reverse.mpr hv))
        have hsR : ∀ v ∈ rest, okV v := fun v hv => hs v (by rw [hsplit]; exact List.mem_append_right _ hv)
        refine call_on hA (va_runS (n := (as.map (cvv ad vF)).length) (As := as.map (cvv ad vF)) (rest := rest.map (cvv ad vF)) fix (hM hN hsA hca) ⟨⟨f1, f2, f3, f4, f5, f6, f7, f8, f9, fun sig h => ?_, hts _ w1⟩, hts _ (c3 hst)⟩ ⟨PcY_blind, pcs y' as⟩ rfl rfl hsz ?_ ?_ hd ⟨hR.2.2.1, hR.2.2.2⟩) hS hsR hL hl k
        · rw [h, if_pos hst] at n5
          have := Option.some.inj n5
          rw [List.length_map, hlen]
          exact this.symm
        · show st.map (cvv ad vF) = _
          rw [hsplit, List.map_append, List.map_reverse]
        · exact lv_room (pc := pc) (ls := lsM) (rest := st.map (cvv ad vF)) (by rw [cvv_sum O.2.1]; exact hcr)
      · cases hc
    · split at hc
      · rename_i y1 hlk
        split at hc
        · rename_i hst
          obtain ⟨rfl, hsplit, hlen, hfr, hlo, hcr, hca⟩ := aGo_spec hc
          obtain ⟨w1, w2⟩ := ln_spec hlk
          obtain ⟨f1, f2, f3, f4, f5, f6, f7, f8, f9⟩ := face y' w2 hfr hlo
          obtain ⟨-, -, c3, -⟩ := wc_spec w2
          have hN : y' < NM := by have : NM = 221 := rfl; omega
          obtain ⟨-, -, -, -, n5, -⟩ := wNam_spec hN
          have hsA : ∀ v ∈ as, okV v := fun v hv => hs v (by rw [hsplit]; exact List.mem_append_left _ (List.mem_reverse.mpr hv))
          have hsR : ∀ v ∈ rest, okV v := fun v hv => hs v (by rw [hsplit]; exact List.mem_append_right _ hv)
          refine call_on hA (va_runSN (n := (as.map (cvv ad vF)).length) (As := as.map (cvv ad vF)) (rest := rest.map (cvv ad vF)) (host := RX4) fix (hM hN hsA hca) ⟨⟨⟨f1, f2, f3, f4, f5, f6⟩, f7, f8, f9, fun sig h => ?_, nest_use (E.2.2.2.2.2.1 (mC y, (idx, y')) w1)⟩, hts _ (c3 hst), trivial⟩ ⟨PcY_blind, pcs y' as⟩ rfl rfl hsz ?_ ?_ hd ⟨hR.2.2.1, hR.2.2.2⟩) hS hsR hL hl k
          · rw [h, if_pos hst] at n5
            have := Option.some.inj n5
            rw [List.length_map, hlen]
            exact this.symm
          · show st.map (cvv ad vF) = _
            rw [hsplit, List.map_append, List.map_reverse]
          · exact lv_room (pc := pc) (ls := lsM) (rest := st.map (cvv ad vF)) (by rw [cvv_sum O.2.1]; exact hcr)
        · cases hc
      · cases hc
  · rename_i idx
    obtain rfl := il1 hn (Nat.succ_ne_zero _)
    split at hc
    · rename_i y1 ps hlk
      split at hc
      · rename_i y2 as2 rest2 hgo
        split at hc
        · rename_i hst
          cases hc
          rw [Bool.and_eq_true] at hst
          obtain ⟨hst, hrc⟩ := hst
          have hst : mSt y1 = false := by simpa using hst
          obtain ⟨rfl, hsplit, hlen, hfr, hlo, hcr, hca⟩ := aGo_spec hgo
          obtain ⟨w1, w2⟩ := lk_spec hlk
          obtain ⟨f1, f2, f3, f4, f5, f6, f7, f8, f9⟩ := face y' w2 hfr hlo
          obtain ⟨-, -, -, c4⟩ := wc_spec w2
          have hN : y' < NM := by have : NM = 221 := rfl; omega
          obtain ⟨n1, -, -, -, n5, n6⟩ := wNam_spec hN
          have hsA : ∀ v ∈ as, okV v := fun v hv => hs v (by rw [hsplit]; exact List.mem_append_left _ (List.mem_reverse.mpr hv))
          have hsR : ∀ v ∈ rest, okV v := fun v hv => hs v (by rw [hsplit]; exact List.mem_append_right _ hv)
          unfold recv at hrc
          split at hrc
          · rename_i t r as0
            have hrc : rcl t = mC y' := by simpa using hrc
            have hmc : mC y' < 11 := by
              have h9 := (wn_spec hN).1
              unfold wNam at h9
              rw [Bool.and_eq_true] at h9
              exact Nat.le_of_ble_eq_true h9.2
            have h33 : ¬ t = 33 := by
              intro z
              subst z
              have : rcl 33 = 99 := rfl
              omega
            have hrec : ∃ cellB : Cell, H[ad t r]? = some cellB ∧ cellB.vm.isStatics = false ∧ s.vm.findClass (mN y').cls = some cellB.cls := by
              rw [n1, ← hrc]
              have hokr : okR t r := hsA _ List.mem_cons_self
              rcases rc_spec (t := t) (by omega) with ⟨rfl, h7⟩ | ⟨h5, h6, h7⟩
              · rw [h7]
                rcases hokr with h | h | h | h | h
                · have := vld_lt h; omega
                · exact vk_recv E.2.1 h.2 hS
                · omega
                · omega
                · omega
              · have hv := okR_obj hokr h5
                have he := wld_at (cA := cA) (ad := ad) (σ := σ) hv
                rw [cel_obj h7] at he
                rw [← h6]
                exact va_recv E.1 hW.1 (vw_at _ h5) he
            refine call_on hA (va_runV (n := (as0.map (cvv ad vF)).length) (C := (mN y').cls) (b := ad t r) (As := as0.map (cvv ad vF)) (rest := rest.map (cvv ad vF)) fix (hM hN hsA hca) ⟨⟨f1, f2, f3, f4, f5, f6, f7, f8, f9, fun sig h => ?_, hts _ w1⟩, hts _ (c4 hst).1, hts _ (c4 hst).2⟩ ⟨PcY_blind, hrec, fun U hU hWm => ?_⟩ rfl rfl hsz ?_ ?_ hd ⟨hR.2.2.1, hR.2.2.2⟩) hS hsR hL hl k
            · rw [h, if_neg (by rw [hst]; decide)] at n5
              have h10 : sig.parameters.length = mNA y' - 1 := Option.some.inj n5
              rw [List.length_map]
              rw [List.length_cons] at hlen
              omega
            · have := pcs y' (.inr (.inl (t, r)) :: as0) U hU hWm
              rw [List.map_cons, cvv_r h33] at this
              exact this
            · show st.map (cvv ad vF) = _
              rw [hsplit, List.map_append, List.map_reverse, List.map_cons, cvv_r h33, List.reverse_cons, List.append_assoc]
              rfl
            · exact lv_room (pc := pc) (ls := lsM) (rest := st.map (cvv ad vF)) (by rw [cvv_sum O.2.1]; exact hcr)
          · cases hrc
        · cases hc
      · cases hc
    · cases hc
  · cases hc
end CALL
/-- THE SIMULATION -/
theorem sim (l : Launch) : ∀ n, PP l n := by
  intro n
  induction n with
  | zero => intro y pc ls st σ res σ' h; cases h
  | succ n ih =>
    intro y pc ls st σ res σ' h hy p e R s m args below meth c cells slots Q D cA ad vF L xs A C E O hA hR hret
    unfold ex at h
    split at h
    · cases h
    · rename_i i len hf
      split at h
      · rename_i rv hrv
        cases h
        intro H locs lsM hL hl hs hW hS
        exact hret H locs lsM pc len i st hf hrv hs hW hS
      · split at h
        · rename_i y' as rest hcall
          split at h
          · rename_i rv σ1 hex
            exact call_sim C E O hA hR hf hcall (fun hN has hca => met_of ih hex hN has hca O) (ih y (pc + 3) ls (rv.toList ++ rest) σ1 res σ' h hy p e R s m args below meth c cells slots Q D cA ad vF L xs A C E O hA hR hret)
          · cases h
        · split at h
          · rename_i pc' ls' st' σ2 hstep
            exact sim_step C E O hA hR hf hstep (ih y pc' ls' st' σ2 res σ' h hy p e R s m args below meth c cells slots Q D cA ad vF L xs A C E O hA hR hret)
          · cases h
end
section
/-! the abstract machine without fuel, and its laws -/
theorem ex_mono1 : ∀ (n y pc : Nat) (ls st : List AV) (σ : St) (r : Option AV × St), ex n y pc ls st σ = some r → ex (n + 1) y pc ls st σ = some r := by
  intro n
  induction n with
  | zero => intro y pc ls st σ r h; cases h
  | succ n ih =>
    intro y pc ls st σ r h
    unfold ex at h ⊢
    split at h
    · cases h
    · rename_i i len hf
      try rw [hf]
      try dsimp only
      split at h
      · rename_i rv hrv
        try rw [hrv]
        exact h
      · rename_i hrv
        try rw [hrv]
        try dsimp only
        split at h
        · rename_i y' as rest hcall
          try rw [hcall]
          try dsimp only
          split at h
          · rename_i rv σ1 hex
            try rw [ih _ _ _ _ _ _ hex]
            exact ih _ _ _ _ _ _ h
          · cases h
        · rename_i hcall
          try rw [hcall]
          try dsimp only
          split at h
          · rename_i pc' ls' st' σ2 hstep
            try rw [hstep]
            exact ih _ _ _ _ _ _ h
          · cases h
theorem ex_mono {n y pc : Nat} {ls st : List AV} {σ : St} {r : Option AV × St} (h : ex n y pc ls st σ = some r) : ∀ k, ex (n + k) y pc ls st σ = some r := by
  intro k
  induction k with
  | zero => exact h
  | succ k ih => exact ex_mono1 _ _ _ _ _ _ _ ih
noncomputable def Rx (y pc : Nat) (ls st : List AV) (σ : St) : Option (Option AV × St) := ex (Classical.epsilon fun n => (ex n y pc ls st σ).isSome = true) y pc ls st σ
theorem Rx_of {n y pc : Nat} {ls st : List AV} {σ : St} {r : Option AV × St} (h : ex n y pc ls st σ = some r) : Rx y pc ls st σ = some r := by
  have h1 : (ex (Classical.epsilon fun n => (ex n y pc ls st σ).isSome = true) y pc ls st σ).isSome = true := Classical.epsilon_spec (p := fun n => (ex n y pc ls st σ).isSome = true) ⟨n, by rw [h]; rfl⟩
  obtain ⟨r2, h2⟩ := Option.isSome_iff_exists.mp h1
  have h3 := ex_mono h (Classical.epsilon fun n => (ex n y pc ls st σ).isSome = true)
  have h4 := ex_mono h2 n
  rw [Nat.add_comm] at h4
  rw [h3] at h4
  unfold Rx
  rw [h2, h4]
theorem Rx_ex {y pc : Nat} {ls st : List AV} {σ : St} {r : Option AV × St} (h : Rx y pc ls st σ = some r) : ∃ n, ex n y pc ls st σ = some r := ⟨_, h⟩
theorem Rx_eq {y pc : Nat} {ls st : List AV} {σ : St} {o : Option (Option AV × St)} (h1 : ∀ n r, ex n y pc ls st σ = some r → o = some r) (h2 : ∀ r, o = some r → ∃ n, ex n y pc ls st σ = some r) : Rx y pc ls st σ = o := by
  cases ho : o with
  | some r => obtain ⟨n, hn⟩ := h2 r ho; exact Rx_of hn
  | none =>
    cases hr : Rx y pc ls st σ with
    | none => rfl
    | some r =>
      obtain ⟨n, hn⟩ := Rx_ex hr
      have := h1 n r hn
      rw [ho] at this
      cases this
def one (y pc : Nat) (ls st : List AV) (σ : St) : Option AC := match fetch y pc with
  | none => none
  | some (i, n) => match aRet y i st with
    | some _ => none
    | none => match aCall y i st with
      | some _ => none
      | none => aStep y i n pc ls st σ
def aN : Nat → Nat → Nat → List AV → List AV → St → Option AC
  | 0, _, pc, ls, st, σ => some (pc, (ls, (st, σ)))
  | k + 1, y, pc, ls, st, σ => match one y pc ls st σ with
    | some (pc', (ls', (st', σ'))) => aN k y pc' ls' st' σ'
    | none => none
theorem Rx_one {y pc : Nat} {ls st : List AV} {σ : St} {pc' : Nat} {ls' st' : List AV} {σ' : St} (h : one y pc ls st σ = some (pc', (ls', (st', σ')))) : Rx y pc ls st σ = Rx y pc' ls' st' σ' := by
  unfold one at h
  have key : ∀ n, ex (n + 1) y pc ls st σ = ex n y pc' ls' st' σ' := by
    intro n
    conv => lhs; unfold ex
    split at h
    · cases h
    · rename_i i len hf
      rw [hf]
      dsimp only
      split at h
      · cases h
      · rename_i hrv
        rw [hrv]
        dsimp only
        split at h
        · cases h
        · rename_i hcall
          rw [hcall]
          dsimp only
          rw [h]
  refine Rx_eq (fun n r hn => ?_) (fun r hr => ?_)
  · exact Rx_of ((key n).symm.trans (ex_mono1 _ _ _ _ _ _ _ hn))
  · obtain ⟨n, hn⟩ := Rx_ex hr
    exact ⟨n + 1, (key n).trans hn⟩
theorem Rx_N {k y : Nat} : ∀ {pc : Nat} {ls st : List AV} {σ : St} {pc' : Nat} {ls' st' : List AV} {σ' : St}, aN k y pc ls st σ = some (pc', (ls', (st', σ'))) → Rx y pc ls st σ = Rx y pc' ls' st' σ' := by
  induction k with
  | zero => intro pc ls st σ pc' ls' st' σ' h; cases h; rfl
  | succ k ih =>
    intro pc ls st σ pc' ls' st' σ' h
    unfold aN at h
    split at h
    · rename_i p1 l1 s1 σ1 h1
      exact (Rx_one h1).trans (ih h)
    · cases h
theorem Rx_ret {y pc n : Nat} {i : Instr} {ls st : List AV} {σ : St} {rv : Option AV} (hf : fetch y pc = some (i, n)) (hr : aRet y i st = some rv) : Rx y pc ls st σ = some (rv, σ) := by
  refine Rx_of (n := 1) ?_
  unfold ex
  rw [hf]
  dsimp only
  rw [hr]
theorem Rx_call {y pc n : Nat} {i : Instr} {ls st : List AV} {σ : St} {y' : Nat} {as rest : List AV} (hf : fetch y pc = some (i, n)) (hr : aRet y i st = none) (hc : aCall y i st = some (y', (as, rest))) : Rx y pc ls st σ = (Rx y' 0 (ent y' as) [] σ).bind fun q => Rx y (pc + 3) ls (q.1.toList ++ rest) q.2 := by
  have key : ∀ n, ex (n + 1) y pc ls st σ = match ex n y' 0 (ent y' as) [] σ with
      | some (rv, σ') => ex n y (pc + 3) ls (rv.toList ++ rest) σ'
      | none => none := by
    intro n
    conv => lhs; unfold ex
    rw [hf]
    dsimp only
    rw [hr]
    dsimp only
    rw [hc]
    rfl
  refine Rx_eq (fun n r hn => ?_) (fun r h2 => ?_)
  · have hn := ex_mono1 _ _ _ _ _ _ _ hn
    rw [key] at hn
    split at hn
    · rename_i rv σ1 hex
      rw [Rx_of hex]
      exact Rx_of hn
    · cases hn
  · cases hq : Rx y' 0 (ent y' as) [] σ with
    | none => rw [hq] at h2; cases h2
    | some q =>
      rw [hq] at h2
      obtain ⟨rv, σ1⟩ := q
      obtain ⟨a, ha⟩ := Rx_ex hq
      obtain ⟨b, hb⟩ := Rx_ex h2
      refine ⟨a + b + 1, ?_⟩
      rw [key, ex_mono ha b]
      dsimp only
      rw [Nat.add_comm]
      exact ex_mono hb a
theorem Rx_ite {y a b : Nat} {ls st : List AV} {σ : St} (c : Prop) [Decidable c] : Rx y (if c then a else b) ls st σ = if c then Rx y a ls st σ else Rx y b ls st σ := by split <;> rfl
theorem Rx_eq0 {k y pc : Nat} {ls st : List AV} {σ : St} {a b : Nat} {ls' st' : List AV} {σ' : St} {x z : Int} (h : aN k y pc ls st σ = some (if cmpI .eq x z = true then a else b, (ls', (st', σ')))) : Rx y pc ls st σ = if x = z then Rx y a ls' st' σ' else Rx y b ls' st' σ' := by
  rw [Rx_N h, Rx_ite]; simp only [cmpI, decide_eq_true_eq]
theorem Rx_ne0 {k y pc : Nat} {ls st : List AV} {σ : St} {a b : Nat} {ls' st' : List AV} {σ' : St} {x z : Int} (h : aN k y pc ls st σ = some (if cmpI .ne x z = true then a else b, (ls', (st', σ')))) : Rx y pc ls st σ = if x = z then Rx y b ls' st' σ' else Rx y a ls' st' σ' := by
  rw [Rx_N h, Rx_ite]; by_cases q : x = z <;> simp [cmpI, q]
theorem Rx_lt0 {k y pc : Nat} {ls st : List AV} {σ : St} {a b : Nat} {ls' st' : List AV} {σ' : St} {x z : Int} (h : aN k y pc ls st σ = some (if cmpI .lt x z = true then a else b, (ls', (st', σ')))) : Rx y pc ls st σ = if x < z then Rx y a ls' st' σ' else Rx y b ls' st' σ' := by
  rw [Rx_N h, Rx_ite]; simp only [cmpI, decide_eq_true_eq]
theorem Rx_ge0 {k y pc : Nat} {ls st : List AV} {σ : St} {a b : Nat} {ls' st' : List AV} {σ' : St} {x z : Int} (h : aN k y pc ls st σ = some (if cmpI .ge x z = true then a else b, (ls', (st', σ')))) : Rx y pc ls st σ = if x < z then Rx y b ls' st' σ' else Rx y a ls' st' σ' := by
  rw [Rx_N h, Rx_ite]; by_cases q : x < z <;> simp only [cmpI, q, decide_true, decide_false, Bool.not_true, Bool.not_false, if_true, if_false, reduceCtorEq]
theorem Rx_gt0 {k y pc : Nat} {ls st : List AV} {σ : St} {a b : Nat} {ls' st' : List AV} {σ' : St} {x z : Int} (h : aN k y pc ls st σ = some (if cmpI .gt x z = true then a else b, (ls', (st', σ')))) : Rx y pc ls st σ = if z < x then Rx y a ls' st' σ' else Rx y b ls' st' σ' := by
  rw [Rx_N h, Rx_ite]; simp only [cmpI, decide_eq_true_eq]
theorem Rx_le0 {k y pc : Nat} {ls st : List AV} {σ : St} {a b : Nat} {ls' st' : List AV} {σ' : St} {x z : Int} (h : aN k y pc ls st σ = some (if cmpI .le x z = true then a else b, (ls', (st', σ')))) : Rx y pc ls st σ = if z < x then Rx y b ls' st' σ' else Rx y a ls' st' σ' := by
  rw [Rx_N h, Rx_ite]; by_cases q : z < x <;> simp only [cmpI, q, decide_true, decide_false, Bool.not_true, Bool.not_false, if_true, if_false, reduceCtorEq]
theorem one_of {y pc n : Nat} {i : Instr} {ls st : List AV} {σ : St} (hf : fetch y pc = some (i, n)) (hr : aRet y i st = none) (hc : aCall y i st = none) : one y pc ls st σ = aStep y i n pc ls st σ := by
  unfold one
  rw [hf]
  dsimp only
  rw [hr]
  dsimp only
  rw [hc]
theorem Rx_ild {y pc : Nat} {ls st : List AV} {σ : St} {t r : Nat} {i : Int} (N : Nat) (hf : fetch y pc = some (.iaload, 1)) (ht : (t == 32) = false) (hN : alen t = N) (h0 : 0 ≤ i) (h1 : i < (N : Int)) : Rx y pc ls (.inl i :: .inr (.inl (t, r)) :: st) σ = Rx y (pc + 1) ls (.inl (σ t r i.toNat) :: st) σ := by
  refine Rx_one ?_
  rw [one_of hf (by unfold aRet; split <;> simp_all) (by rfl)]
  simp only [aStep, aIld, ht, Bool.false_eq_true, if_false, hN]
  rw [if_pos ⟨h0, h1⟩]
theorem Rx_ist {y pc : Nat} {ls st : List AV} {σ : St} {t r : Nat} {i v : Int} (N : Nat) (hf : fetch y pc = some (.iastore, 1)) (hN : alen t = N) (h0 : 0 ≤ i) (h1 : i < (N : Int)) : Rx y pc ls (.inl v :: .inl i :: .inr (.inl (t, r)) :: st) σ = Rx y (pc + 1) ls st (up σ t r i.toNat v) := by
  refine Rx_one ?_
  rw [one_of hf (by unfold aRet; split <;> simp_all) (by rfl)]
  simp only [aStep, aIst, hN]
  rw [if_pos ⟨h0, h1⟩]
theorem Rx_sld {y pc : Nat} {ls st : List AV} {σ : St} {i : Int} (hf : fetch y pc = some (.iaload, 1)) (h0 : 0 ≤ i) (h1 : i < σ 32 1 0) : Rx y pc ls (.inl i :: .inr (.inl (32, 0)) :: st) σ = Rx y (pc + 1) ls (.inl (σ 32 0 i.toNat) :: st) σ := by
  refine Rx_one ?_
  rw [one_of hf (by unfold aRet; split <;> simp_all) (by rfl)]
  simp only [aStep, aIld, beq_self_eq_true, if_true]
  rw [if_pos ⟨h0, h1⟩]
theorem Rx_bld {y pc : Nat} {ls st : List AV} {σ : St} {r : Nat} {i : Int} (hf : fetch y pc = some (.baload, 1)) (h0 : 0 ≤ i) (h1 : i < (slen r : Int)) : Rx y pc ls (.inl i :: .inr (.inl (31, r)) :: st) σ = Rx y (pc + 1) ls (.inl (sbyt r i.toNat) :: st) σ := by
  refine Rx_one ?_
  rw [one_of hf (by unfold aRet; split <;> simp_all) (by rfl)]
  simp only [aStep, aBld, beq_self_eq_true, if_true]
  rw [if_pos ⟨h0, h1⟩]
theorem Rx_idiv {y pc : Nat} {ls st : List AV} {σ : St} {x z : Int} (hf : fetch y pc = some (.idiv, 1)) (hz : z ≠ 0) : Rx y pc ls (.inl z :: .inl x :: st) σ = Rx y (pc + 1) ls (.inl (wr (x.tdiv z)) :: st) σ := by
  refine Rx_one ?_
  rw [one_of hf (by unfold aRet; split <;> simp_all) (by rfl)]
  simp only [aStep, binI, if_neg hz]
theorem Rx_irem {y pc : Nat} {ls st : List AV} {σ : St} {x z : Int} (hf : fetch y pc = some (.irem, 1)) (hz : z ≠ 0) : Rx y pc ls (.inl z :: .inl x :: st) σ = Rx y (pc + 1) ls (.inl (x.tmod z) :: st) σ := by
  refine Rx_one ?_
  rw [one_of hf (by unfold aRet; split <;> simp_all) (by rfl)]
  simp only [aStep, binI, if_neg hz]
theorem Rx_ldiv {y pc : Nat} {ls st : List AV} {σ : St} {x z : Int} (hf : fetch y pc = some (.ldiv, 1)) (hz : z ≠ 0) : Rx y pc ls (.inr (.inr z) :: .inr (.inr x) :: st) σ = Rx y (pc + 1) ls (.inr (.inr (wl (x.tdiv z))) :: st) σ := by
  refine Rx_one ?_
  rw [one_of hf (by unfold aRet; split <;> simp_all) (by rfl)]
  simp only [aStep, binL, if_neg hz]
theorem Rx_lrem {y pc : Nat} {ls st : List AV} {σ : St} {x z : Int} (hf : fetch y pc = some (.lrem, 1)) (hz : z ≠ 0) : Rx y pc ls (.inr (.inr z) :: .inr (.inr x) :: st) σ = Rx y (pc + 1) ls (.inr (.inr (x.tmod z)) :: st) σ := by
  refine Rx_one ?_
  rw [one_of hf (by unfold aRet; split <;> simp_all) (by rfl)]
  simp only [aStep, binL, if_neg hz]
theorem Rx_tout {y pc n : Nat} {ls st : List AV} {σ : St} {d lo hi : Int} {offs : Array Int} {x : Int} {t : Nat} (hf : fetch y pc = some (.tableswitch d lo hi offs, n)) (hx : x < lo ∨ hi < x) (ht : tgt pc d = some t) : Rx y pc ls (.inl x :: st) σ = Rx y t ls st σ := by
  refine Rx_one ?_
  rw [one_of hf (by unfold aRet; split <;> simp_all) (by rfl)]
  simp only [aStep]
  rw [if_pos hx, ht]
  rfl
theorem Rx_lout {y pc n : Nat} {ls st : List AV} {σ : St} {d : Int} {ps : Array (Int × Int)} {x : Int} {t : Nat} (hf : fetch y pc = some (.lookupswitch d ps, n)) (hp : (ps.toList.zip (ps.toList.drop 1)).all (fun (a, next) => a.1 < next.1) = true) (ho : Op.lookupswitch.offset ps.toList d x = d) (ht : tgt pc d = some t) : Rx y pc ls (.inl x :: st) σ = Rx y t ls st σ := by
  refine Rx_one ?_
  rw [one_of hf (by unfold aRet; split <;> simp_all) (by rfl)]
  simp only [aStep]
  rw [if_pos hp, ho, ht]
  rfl
end
section
def fM9 : Nat → Int32 := fun _ => -9
theorem lwg_good : ∀ w ∈ lwg, w ∈ lwg ∧ ((w.onTables && w.keeps) = true ∨ ∃ ty, w = .arrayClass ty) := fun w hw => ⟨hw, good_of_word (List.all_eq_true.mp lwg_all w hw)⟩
theorem gI {y : MethodName} {bb : ByteArray} {n : Nat} {r : Option FieldType} (h : Cond.code y bb n r ∈ lwg) : GoodIn lwg (Cond.code y bb n r :: lwg) := fun w hw => by
  rcases List.mem_cons.mp hw with e | e
  · rw [e]; exact lwg_good _ h
  · exact lwg_good _ e
theorem cA_eq {D : va_G} {s : State} {cA cB : ClassId} (h : va_K D vwC ([(cA, .int)] ++ [(cB, .int)]) s) : cB = cA := by
  have h1 : s.vm.findClass ("[" ++ FieldType.int.toString) = some cA := (h.2 0 _ rfl).2
  have h2 : s.vm.findClass ("[" ++ FieldType.int.toString) = some cB := (h.2 1 _ rfl).2
  exact Option.some.inj (h2.symm.trans h1)
theorem cell_congr {cA : ClassId} {n : Nat} {f g : Nat → Int32} (h : ∀ j, j < n → f j = g j) : vp_cell cA (n, .inl f) = vp_cell cA (n, .inl g) := by
  rw [vp_cell_i, vp_cell_i]
  unfold arrV
  congr 1
  apply Array.ext
  · simp
  · intro i h1 h2
    simp at h1
    simp [h i h1]
theorem P_congr {D : va_G} {H : Heap} {cA : ClassId} {n k q : Nat} {f g : Nat → Int32} {ws ws' : va_W} (hP : va_P D vwC ws H) (hk : ws[k]? = some (q, .inl (cA, (n, .inl f)))) (h : ∀ j, j < n → f j = g j) (hs : ws' = ws.set k (q, .inl (cA, (n, .inl g)))) : va_P D vwC ws' H := by
  subst hs
  intro j x hx
  rw [List.getElem?_set] at hx
  by_cases e : k = j
  · rw [if_pos e] at hx
    split at hx
    · cases hx
      have h1 := hP k _ hk
      show H[q]? = some (vp_cell cA (n, .inl g))
      rw [← cell_congr h]
      exact h1
    · cases hx
  · rw [if_neg e] at hx
    exact hP j x hx
/-- Arrays.fill over an int array -/
theorem D_congr {A : Nat → Prop} {k q : Nat} {x y : va_E} {ws ws' : va_W} (hD : va_D A ws) (hk : ws[k]? = some (q, x)) (hs : ws' = ws.set k (q, y)) : va_D A ws' := by
  subst hs
  exact hD.set hk
set_option maxHeartbeats 4000000 in
set_option maxRecDepth 100000 in
/-- Arrays.fill(int[20], v) -/
theorem c_fill (l : Launch) (dC : Nat → ClassId) (dI : Nat → Nat → Nat) (cA : ClassId) (h0 sz : Nat) (f : Nat → Int32) (v : Int32) : Met l yJ7_fill_53178 (.code yJ7_fill_53178 cJ7_fill_53178 4 none :: lwg) ({ frames := 0, cells := 0, slots := 0, locals := 0 }) (va_Pc [.ref h0, .int v] (fun U => U.heap.size = sz ∧ va_P (dC, dI) vwC [(h0, .inl (cA, (20, .inl f)))] U.heap ∧ va_K (dC, dI) vwC [(cA, .int)] U ∧ va_D (fun _ => True) [(h0, .inl (cA, (20, .inl f)))])) (va_Qv (fun g : Nat → Int32 => ∀ j, j < 20 → g j = v) (fun g t => va_P (dC, dI) vwC [(h0, .inl (cA, (20, .inl g)))] t.heap ∧ va_D (va_A [(h0, .inl (cA, (20, .inl f)))] sz) [(h0, .inl (cA, (20, .inl g)))]) (va_A [(h0, .inl (cA, (20, .inl f)))] sz)) 0 0 (va_A [(h0, .inl (cA, (20, .inl f)))] sz) := by
  refine Met.ofW (cc := cJ7_fill_53178) (maxL := 4) (ret := none) (by decide) rfl ?_
  intro p e s m args below meth c s₁ B hml hv
  obtain ⟨rfl, hsz, hP, hK, hD0⟩ := hv
  have hx := B.exec
  have hb := B.bytes
  have hr := B.returns
  have hlocks := B.notSynchronized
  subst hsz
  have hD := hD0.self (sz := s.heap.size)
  generalize hAe : va_A [(h0, .inl (cA, (20, .inl f)))] s.heap.size = A at hD ⊢
  have hS : va_S A s.heap s.heap [] := va_S.rf
  have hl := lv_entry ([.ref h0, .int v]) (n := 4) (Nat.le_of_ble_eq_true rfl)
  rw [lg_entry_eq]
  generalize (lg_sl ([.ref h0, .int v]) ++ List.replicate (4 - (lg_sl ([.ref h0, .int v])).length) Slot.unset).toArray = ls at hl ⊢
  have hl : lv_has ls 4 [(0, .ref h0), (1, .int v)] := hl
  refine lv_iconst (v := 0) hx hb dJ7_fill_53178_0 (by decide) ?_
  refine lv_istore_n (lv' := [(2, .int 0), (0, .ref h0), (1, .int v)]) hx hb dJ7_fill_53178_1 rfl hl (by decide) rfl (fun ls hl => ?_)
  refine lv_aload_n hx hb dJ7_fill_53178_2 rfl (lv_at hl 1 rfl) ?_
  refine va_alen hx hb hK hP 0 0 rfl rfl (v := 20) (show Int32.ofNat 20 = 20 by decide) dJ7_fill_53178_3 ?_
  refine lv_istore_n (lv' := [(3, .int 20), (2, .int 0), (0, .ref h0), (1, .int v)]) hx hb dJ7_fill_53178_4 rfl hl (by decide) rfl (fun ls hl => ?_)
  have loop : ∀ (n i : Nat), i + n = 20 → ∀ (g : Nat → Int32), (∀ j, j < i → g j = v) → ∀ (H : Heap) (locs : List Loc), va_P (dC, dI) vwC [(h0, .inl (cA, (20, .inl g)))] H → va_D A [(h0, .inl (cA, (20, .inl g)))] → va_S A s.heap H locs → ∀ (ls : Array Slot), lv_has ls 4 [(3, .int 20), (2, .int (nI i)), (0, .ref h0), (1, .int v)] →
      W p l e (headSpec (Cond.code yJ7_fill_53178 cJ7_fill_53178 4 none :: lwg) { frames := 0, cells := 0, slots := 0, locals := 0 }).room s m ([Value.ref h0, .int v] : List Value).toArray below meth c H locs 0 0 (MQ below (va_Qv (fun g : Nat → Int32 => ∀ j, j < 20 → g j = v) (fun g t => va_P (dC, dI) vwC [(h0, .inl (cA, (20, .inl g)))] t.heap ∧ va_D A [(h0, .inl (cA, (20, .inl g)))]) A) ([Value.ref h0, .int v] : List Value).toArray s 0 0 A) (F0 m 5 ls []) := by
    intro n
    induction n with
    | zero =>
      intro i hi g hg H locs hP hD hS ls hl
      refine lv_iload_n hx hb dJ7_fill_53178_5 rfl (lv_at hl 1 rfl) ?_
      refine lv_iload_n hx hb dJ7_fill_53178_6 rfl (lv_at hl 0 rfl) ?_
      refine lv_icmp_ge (tgt := 20) hx hb dJ7_fill_53178_7 (by decide) (fun z => ?_) (fun z => ?_)
      · exact W.vret hx hb hr (fun t ht hW => ⟨⟨g, rfl, fun j hj => hg j (by omega), by rw [ht]; exact hP, hD⟩, hS.F ht⟩) hS.2.2 dJ7_fill_53178_20
      · exact absurd (show (20 : Int32) ≤ nI i from nI_le (a := 20) (b := i) (by omega) (by omega)) z
    | succ n ih =>
      intro i hi g hg H locs hP hD hS ls hl
      refine lv_iload_n hx hb dJ7_fill_53178_5 rfl (lv_at hl 1 rfl) ?_
      refine lv_iload_n hx hb dJ7_fill_53178_6 rfl (lv_at hl 0 rfl) ?_
      refine lv_icmp_ge (tgt := 20) hx hb dJ7_fill_53178_7 (by decide) (fun z => ?_) (fun z => ?_)
      · exact absurd z (nI_ge (a := i) (b := 20) (by omega) (by omega))
      · refine lv_aload_n hx hb dJ7_fill_53178_10 rfl (lv_at hl 2 rfl) ?_
        refine lv_iload_n hx hb dJ7_fill_53178_11 rfl (lv_at hl 1 rfl) ?_
        refine lv_iload_n hx hb dJ7_fill_53178_12 rfl (lv_at hl 3 rfl) ?_
        refine va_iast hx hb hK hP hD hS 0 0 rfl rfl (vp_in_nI (by omega) (by omega)) dJ7_fill_53178_13 (fun H1 locs1 hP1 hD1 hS1 => ?_)
        refine lv_iinc (v := nI (i + 1)) (lv' := [(2, .int (nI (i + 1))), (3, .int 20), (0, .ref h0), (1, .int v)]) hx hb dJ7_fill_53178_14 hl (k := 1) rfl (nI_1 i) (by decide) rfl (fun ls hl => ?_)
        refine lv_goto (tgt := 5) hx hb dJ7_fill_53178_17 (by decide) ?_
        refine ih (i + 1) (by omega) (upd g i v) (fun j hj => ?_) H1 locs1 ?_ ?_ hS1 ls (lv_sub hl [1, 0, 2, 3] rfl)
        · by_cases e : j = i
          · rw [e]; exact pk_us
          · rw [pk_un e]; exact hg j (by omega)
        · rw [nI_clamp (by omega)] at hP1; exact hP1
        · rw [nI_clamp (by omega)] at hD1; exact hD1
  exact loop 20 0 rfl f (fun j hj => absurd hj (Nat.not_lt_zero j)) s.heap [] hP hD hS ls (lv_sub hl [0, 1, 2, 3] rfl)
def cwR (cA : ClassId) (h0 : Nat) (a : Nat → Nat) : va_W := [(h0, .inr (2, [.int 0, .int 0, .int 0, .int 0, .ref (a 0), .ref (a 1), .ref (a 2), .ref (a 3), .ref (a 4), .ref (a 5), .ref (a 6), .ref (a 7)])), (a 0, .inl (cA, (5, .inl (fun _ => 0)))), (a 1, .inl (cA, (5, .inl (fun _ => 0)))), (a 2, .inl (cA, (5, .inl (fun _ => 0)))), (a 3, .inl (cA, (5, .inl (fun _ => 0)))), (a 4, .inl (cA, (10, .inl (fun _ => 0)))), (a 5, .inl (cA, (10, .inl (fun _ => 0)))), (a 6, .inl (cA, (10, .inl (fun _ => 0)))), (a 7, .inl (cA, (20, .inl fM9)))]
def cwL (cA : ClassId) (h0 : Nat) (a : Nat → Nat) : va_W := [(h0, .inr (0, [.ref (a 0), .int 0])), (a 0, .inl (cA, (96, .inl (fun _ => 0))))]
def cwM (cA : ClassId) (h0 : Nat) (a : Nat → Nat) : va_W := [(h0, .inr (1, [.ref (a 0), .ref (a 9), .ref (a 18)])), (a 0, .inr (2, [.int 0, .int 0, .int 0, .int 0, .ref (a 1), .ref (a 2), .ref (a 3), .ref (a 4), .ref (a 5), .ref (a 6), .ref (a 7), .ref (a 8)])), (a 1, .inl (cA, (5, .inl (fun _ => 0)))), (a 2, .inl (cA, (5, .inl (fun _ => 0)))), (a 3, .inl (cA, (5, .inl (fun _ => 0)))), (a 4, .inl (cA, (5, .inl (fun _ => 0)))), (a 5, .inl (cA, (10, .inl (fun _ => 0)))), (a 6, .inl (cA, (10, .inl (fun _ => 0)))), (a 7, .inl (cA, (10, .inl (fun _ => 0)))), (a 8, .inl (cA, (20, .inl fM9))), (a 9, .inr (2, [.int 0, .int 0, .int 0, .int 0, .ref (a 10), .ref (a 11), .ref (a 12), .ref (a 13), .ref (a 14), .ref (a 15), .ref (a 16), .ref (a 17)])), (a 10, .inl (cA, (5, .inl (fun _ => 0)))), (a 11, .inl (cA, (5, .inl (fun _ => 0)))), (a 12, .inl (cA, (5, .inl (fun _ => 0)))), (a 13, .inl (cA, (5, .inl (fun _ => 0)))), (a 14, .inl (cA, (10, .inl (fun _ => 0)))), (a 15, .inl (cA, (10, .inl (fun _ => 0)))), (a 16, .inl (cA, (10, .inl (fun _ => 0)))), (a 17, .inl (cA, (20, .inl fM9))), (a 18, .inl (cA, (4, .inl (fun _ => 0))))]
def cwX (cA : ClassId) (h0 : Nat) (a : Nat → Nat) : va_W := [(h0, .inr (3, [.ref (a 0), .ref (a 1), .ref (a 20), .ref (a 22), .int 0, .ref (a 31), .int 0, .ref (a 32)])), (a 0, .inr (1, [.ref (a 1), .ref (a 10), .ref (a 19)])), (a 1, .inr (2, [.int 0, .int 0, .int 0, .int 0, .ref (a 2), .ref (a 3), .ref (a 4), .ref (a 5), .ref (a 6), .ref (a 7), .ref (a 8), .ref (a 9)])), (a 2, .inl (cA, (5, .inl (fun _ => 0)))), (a 3, .inl (cA, (5, .inl (fun _ => 0)))), (a 4, .inl (cA, (5, .inl (fun _ => 0)))), (a 5, .inl (cA, (5, .inl (fun _ => 0)))), (a 6, .inl (cA, (10, .inl (fun _ => 0)))), (a 7, .inl (cA, (10, .inl (fun _ => 0)))), (a 8, .inl (cA, (10, .inl (fun _ => 0)))), (a 9, .inl (cA, (20, .inl fM9))), (a 10, .inr (2, [.int 0, .int 0, .int 0, .int 0, .ref (a 11), .ref (a 12), .ref (a 13), .ref (a 14), .ref (a 15), .ref (a 16), .ref (a 17), .ref (a 18)])), (a 11, .inl (cA, (5, .inl (fun _ => 0)))), (a 12, .inl (cA, (5, .inl (fun _ => 0)))), (a 13, .inl (cA, (5, .inl (fun _ => 0)))), (a 14, .inl (cA, (5, .inl (fun _ => 0)))), (a 15, .inl (cA, (10, .inl (fun _ => 0)))), (a 16, .inl (cA, (10, .inl (fun _ => 0)))), (a 17, .inl (cA, (10, .inl (fun _ => 0)))), (a 18, .inl (cA, (20, .inl fM9))), (a 19, .inl (cA, (4, .inl (fun _ => 0)))), (a 20, .inr (0, [.ref (a 21), .int 0])), (a 21, .inl (cA, (96, .inl (fun _ => 0)))), (a 22, .inr (2, [.int 0, .int 0, .int 0, .int 0, .ref (a 23), .ref (a 24), .ref (a 25), .ref (a 26), .ref (a 27), .ref (a 28), .ref (a 29), .ref (a 30)])), (a 23, .inl (cA, (5, .inl (fun _ => 0)))), (a 24, .inl (cA, (5, .inl (fun _ => 0)))), (a 25, .inl (cA, (5, .inl (fun _ => 0)))), (a 26, .inl (cA, (5, .inl (fun _ => 0)))), (a 27, .inl (cA, (10, .inl (fun _ => 0)))), (a 28, .inl (cA, (10, .inl (fun _ => 0)))), (a 29, .inl (cA, (10, .inl (fun _ => 0)))), (a 30, .inl (cA, (20, .inl fM9))), (a 31, .inl (cA, (16, .inl (fun _ => 0)))), (a 32, .inl (cA, (7, .inl (fun _ => 0))))]
def cwN (cA : ClassId) (h0 : Nat) (a : Nat → Nat) : va_W := [(h0, .inr (4, [.ref (a 0), .ref (a 1), .ref (a 2), .ref (a 3), .ref (a 4), .int 0, .ref (a 5), .ref (a 6), .ref (a 7), .int 0, .int 0, .int 0, .ref (a 8), .int 0])), (a 0, .inl (cA, (58, .inl (fun _ => 0)))), (a 1, .inl (cA, (58, .inl (fun _ => 0)))), (a 2, .inl (cA, (58, .inl (fun _ => 0)))), (a 3, .inl (cA, (58, .inl (fun _ => 0)))), (a 4, .inl (cA, (5, .inl (fun _ => 0)))), (a 5, .inl (cA, (96, .inl (fun _ => 0)))), (a 6, .inl (cA, (16, .inl (fun _ => 0)))), (a 7, .inl (cA, (7, .inl (fun _ => 0)))), (a 8, .inl (cA, (3, .inl (fun _ => 0))))]
set_option maxHeartbeats 4000000 in
set_option maxRecDepth 100000 in
/-- Rack() -/
theorem c_X2_init (l : Launch) (dC : Nat → ClassId) (dI : Nat → Nat → Nat) (cA : ClassId) (h0 sz : Nat) : Met l yX2_init (.code yX2_init cX2_init 1 none :: lwg) ({ frames := 1, cells := 8, slots := 70, locals := 48 }) (va_Pc [.ref h0] (fun U => U.heap.size = sz ∧ va_P (dC, dI) vwC [(h0, .inr (2, [.int 0, .int 0, .int 0, .int 0, .null, .null, .null, .null, .null, .null, .null, .null]))] U.heap ∧ va_K (dC, dI) vwC [(cA, .int)] U ∧ va_D (fun _ => True) [(h0, .inr (2, [.int 0, .int 0, .int 0, .int 0, .null, .null, .null, .null, .null, .null, .null, .null]))])) (va_Qv (fun _ : Nat → Nat => True) (fun a t => va_P (dC, dI) vwC (cwR cA h0 a) t.heap ∧ va_D (va_A [(h0, .inr (2, [.int 0, .int 0, .int 0, .int 0, .null, .null, .null, .null, .null, .null, .null, .null]))] sz) (cwR cA h0 a)) (va_A [(h0, .inr (2, [.int 0, .int 0, .int 0, .int 0, .null, .null, .null, .null, .null, .null, .null, .null]))] sz)) 8 70 (va_A [(h0, .inr (2, [.int 0, .int 0, .int 0, .int 0, .null, .null, .null, .null, .null, .null, .null, .null]))] sz) := by
  refine Met.ofW (cc := cX2_init) (maxL := 1) (ret := none) (by decide) rfl ?_
  intro p e s m args below meth c s₁ B hml hv
  obtain ⟨rfl, hsz, hP, hK, hD0⟩ := hv
  have hx := B.exec
  have hb := B.bytes
  have hr := B.returns
  have hts0 := atoms_spec (ws := .code yX2_init cX2_init 1 none :: lwg) B.pre
  have hts : ∀ w ∈ lwg, w.before ([Value.ref h0] : List Value).toArray s = true := fun w hw => hts0 w (List.mem_cons_of_mem _ hw)
  have hown : s.vm.findClass RX2 = some m.cls := findClass_of_methodNamed B.named
  have hlocks := B.notSynchronized
  have hin : meth.name = "<init>" := (name_of_methodNamed B.named B.method).1
  subst hsz
  have hD := hD0.self (sz := s.heap.size)
  generalize hAe : va_A [(h0, .inr (2, [.int 0, .int 0, .int 0, .int 0, .null, .null, .null, .null, .null, .null, .null, .null]))] s.heap.size = A at hD ⊢
  have hA : ∀ q : Nat, s.heap.size ≤ q → A q := fun q h => by rw [← hAe]; exact Or.inr h
  have hS : va_S A s.heap s.heap [] := va_S.rf
  have hl := lv_entry ([.ref h0]) (n := 1) (Nat.le_of_ble_eq_true rfl)
  rw [lg_entry_eq]
  generalize (lg_sl ([.ref h0]) ++ List.replicate (1 - (lg_sl ([.ref h0])).length) Slot.unset).toArray = ls at hl ⊢
  have hl : lv_has ls 1 [(0, .ref h0)] := hl
  refine lv_aload_n hx hb dX2_init_0 rfl (lv_at hl 0 rfl) ?_
  refine W.objInit hx hb hown (hts _ (wAt_in (p := 1035) (w := .methodLink RX2 3 objectInit) (by decide +kernel))) (hts _ (wAt_in (p := 1022) (w := .instanceMethod objectInit) (by decide +kernel))) (hts _ (wAt_in (p := 1023) (w := .code objectInit ⟨#[0xb1]⟩ 1 none) (by decide +kernel))) rfl (by rw [hml]; exact hl.1) rfl dX2_init_1 (Nat.le_of_ble_eq_true rfl) (Nat.le_of_ble_eq_true rfl) ?_
  refine W.eq (g2 := F0 m 4 ls []) rfl ?_
  refine lv_aload_n hx hb dX2_init_4 rfl (lv_at hl 0 rfl) ?_
  refine lv_iconst (v := 5) hx hb dX2_init_5 (by decide) ?_
  refine va_newa (atype := .int) (n := 5) (N' := 5) (a0 := (5, .inl (fun _ => 0))) hx hb (hts _ (wAt_in (p := 1095) (w := .arrayClass .int) (by decide +kernel))) rfl hK hP hD hS hA (fun _ => rfl) (by decide) (by decide) (by decide) (show 0 + 1 ≤ 8 by decide) (show 0 + 5 ≤ 70 by decide) dX2_init_6 (fun q0 cB H hK2 hP hD hS => ?_)
  have e9 := (cA_eq hK2).symm
  subst e9
  refine va_putF (D := (dC, dI)) (ci := 2) (v := .ref q0) (ty := .array .int) (own := RX2) (ref := "LeansAgainstReason$Rack") (C := RX2) (T := TX2) (N := 12) hx hb hts (wu_all 2 (by decide)) tyX2 tyX2_ok nmX2 hown hK hP hD hS 0 rfl rfl 4 (by decide) (hts _ (wAt_in (p := 1051) (w := .fieldLink RX2 9 "LeansAgainstReason$Rack" "kind" "[I") (by decide +kernel))) (fun _ h9 => h9) rfl hin rfl (by decide +kernel) rfl rfl (Nat.le_of_ble_eq_true rfl) dX2_init_8 (fun H locs hP hD hS => ?_)
  have hP : va_P (dC, dI) vwC [(h0, .inr (2, [.int 0, .int 0, .int 0, .int 0, .ref q0, .null, .null, .null, .null, .null, .null, .null])), (q0, .inl (cA, (5, .inl (fun _ => 0))))] H := hP
  have hD : va_D A [(h0, .inr (2, [.int 0, .int 0, .int 0, .int 0, .ref q0, .null, .null, .null, .null, .null, .null, .null])), (q0, .inl (cA, (5, .inl (fun _ => 0))))] := hD
  refine lv_aload_n hx hb dX2_init_11 rfl (lv_at hl 0 rfl) ?_
  refine lv_iconst (v := 5) hx hb dX2_init_12 (by decide) ?_
  refine va_newa (atype := .int) (n := 5) (N' := 5) (a0 := (5, .inl (fun _ => 0))) hx hb (hts _ (wAt_in (p := 1095) (w := .arrayClass .int) (by decide +kernel))) rfl hK hP hD hS hA (fun _ => rfl) (by decide) (by decide) (by decide) (show 1 + 1 ≤ 8 by decide) (show 5 + 5 ≤ 70 by decide) dX2_init_13 (fun q1 cB H hK2 hP hD hS => ?_)
  have e9 := (cA_eq hK2).symm
  subst e9
  refine va_putF (D := (dC, dI)) (ci := 2) (v := .ref q1) (ty := .array .int) (own := RX2) (ref := "LeansAgainstReason$Rack") (C := RX2) (T := TX2) (N := 12) hx hb hts (wu_all 2 (by decide)) tyX2 tyX2_ok nmX2 hown hK hP hD hS 0 rfl rfl 5 (by decide) (hts _ (wAt_in (p := 1054) (w := .fieldLink RX2 15 "LeansAgainstReason$Rack" "figure" "[I") (by decide +kernel))) (fun _ h9 => h9) rfl hin rfl (by decide +kernel) rfl rfl (Nat.le_of_ble_eq_true rfl) dX2_init_15 (fun H locs hP hD hS => ?_)
  have hP : va_P (dC, dI) vwC [(h0, .inr (2, [.int 0, .int 0, .int 0, .int 0, .ref q0, .ref q1, .null, .null, .null, .null, .null, .null])), (q0, .inl (cA, (5, .inl (fun _ => 0)))), (q1, .inl (cA, (5, .inl (fun _ => 0))))] H := hP
  have hD : va_D A [(h0, .inr (2, [.int 0, .int 0, .int 0, .int 0, .ref q0, .ref q1, .null, .null, .null, .null, .null, .null])), (q0, .inl (cA, (5, .inl (fun _ => 0)))), (q1, .inl (cA, (5, .inl (fun _ => 0))))] := hD
  refine lv_aload_n hx hb dX2_init_18 rfl (lv_at hl 0 rfl) ?_
  refine lv_iconst (v := 5) hx hb dX2_init_19 (by decide) ?_
  refine va_newa (atype := .int) (n := 5) (N' := 5) (a0 := (5, .inl (fun _ => 0))) hx hb (hts _ (wAt_in (p := 1095) (w := .arrayClass .int) (by decide +kernel))) rfl hK hP hD hS hA (fun _ => rfl) (by decide) (by decide) (by decide) (show 2 + 1 ≤ 8 by decide) (show 10 + 5 ≤ 70 by decide) dX2_init_20 (fun q2 cB H hK2 hP hD hS => ?_)
  have e9 := (cA_eq hK2).symm
  subst e9
  refine va_putF (D := (dC, dI)) (ci := 2) (v := .ref q2) (ty := .array .int) (own := RX2) (ref := "LeansAgainstReason$Rack") (C := RX2) (T := TX2) (N := 12) hx hb hts (wu_all 2 (by decide)) tyX2 tyX2_ok nmX2 hown hK hP hD hS 0 rfl rfl 6 (by decide) (hts _ (wAt_in (p := 1057) (w := .fieldLink RX2 18 "LeansAgainstReason$Rack" "strength" "[I") (by decide +kernel))) (fun _ h9 => h9) rfl hin rfl (by decide +kernel) rfl rfl (Nat.le_of_ble_eq_true rfl) dX2_init_22 (fun H locs hP hD hS => ?_)
  have hP : va_P (dC, dI) vwC [(h0, .inr (2, [.int 0, .int 0, .int 0, .int 0, .ref q0, .ref q1, .ref q2, .null, .null, .null, .null, .null])), (q0, .inl (cA, (5, .inl (fun _ => 0)))), (q1, .inl (cA, (5, .inl (fun _ => 0)))), (q2, .inl (cA, (5, .inl (fun _ => 0))))] H := hP
  have hD : va_D A [(h0, .inr (2, [.int 0, .int 0, .int 0, .int 0, .ref q0, .ref q1, .ref q2, .null, .null, .null, .null, .null])), (q0, .inl (cA, (5, .inl (fun _ => 0)))), (q1, .inl (cA, (5, .inl (fun _ => 0)))), (q2, .inl (cA, (5, .inl (fun _ => 0))))] := hD
  refine lv_aload_n hx hb dX2_init_25 rfl (lv_at hl 0 rfl) ?_
  refine lv_iconst (v := 5) hx hb dX2_init_26 (by decide) ?_
  refine va_newa (atype := .int) (n := 5) (N' := 5) (a0 := (5, .inl (fun _ => 0))) hx hb (hts _ (wAt_in (p := 1095) (w := .arrayClass .int) (by decide +kernel))) rfl hK hP hD hS hA (fun _ => rfl) (by decide) (by decide) (by decide) (show 3 + 1 ≤ 8 by decide) (show 15 + 5 ≤ 70 by decide) dX2_init_27 (fun q3 cB H hK2 hP hD hS => ?_)
  have e9 := (cA_eq hK2).symm
  subst e9
  refine va_putF (D := (dC, dI)) (ci := 2) (v := .ref q3) (ty := .array .int) (own := RX2) (ref := "LeansAgainstReason$Rack") (C := RX2) (T := TX2) (N := 12) hx hb hts (wu_all 2 (by decide)) tyX2 tyX2_ok nmX2 hown hK hP hD hS 0 rfl rfl 7 (by decide) (hts _ (wAt_in (p := 1060) (w := .fieldLink RX2 21 "LeansAgainstReason$Rack" "load" "[I") (by decide +kernel))) (fun _ h9 => h9) rfl hin rfl (by decide +kernel) rfl rfl (Nat.le_of_ble_eq_true rfl) dX2_init_29 (fun H locs hP hD hS => ?_)
  have hP : va_P (dC, dI) vwC [(h0, .inr (2, [.int 0, .int 0, .int 0, .int 0, .ref q0, .ref q1, .ref q2, .ref q3, .null, .null, .null, .null])), (q0, .inl (cA, (5, .inl (fun _ => 0)))), (q1, .inl (cA, (5, .inl (fun _ => 0)))), (q2, .inl (cA, (5, .inl (fun _ => 0)))), (q3, .inl (cA, (5, .inl (fun _ => 0))))] H := hP
  have hD : va_D A [(h0, .inr (2, [.int 0, .int 0, .int 0, .int 0, .ref q0, .ref q1, .ref q2, .ref q3, .null, .null, .null, .null])), (q0, .inl (cA, (5, .inl (fun _ => 0)))), (q1, .inl (cA, (5, .inl (fun _ => 0)))), (q2, .inl (cA, (5, .inl (fun _ => 0)))), (q3, .inl (cA, (5, .inl (fun _ => 0))))] := hD
  refine lv_aload_n hx hb dX2_init_32 rfl (lv_at hl 0 rfl) ?_
  refine lv_bipush (v := 10) hx hb dX2_init_33 (by decide) ?_
  refine va_newa (atype := .int) (n := 10) (N' := 10) (a0 := (10, .inl (fun _ => 0))) hx hb (hts _ (wAt_in (p := 1095) (w := .arrayClass .int) (by decide +kernel))) rfl hK hP hD hS hA (fun _ => rfl) (by decide) (by decide) (by decide) (show 4 + 1 ≤ 8 by decide) (show 20 + 10 ≤ 70 by decide) dX2_init_35 (fun q4 cB H hK2 hP hD hS => ?_)
  have e9 := (cA_eq hK2).symm
  subst e9
  refine va_putF (D := (dC, dI)) (ci := 2) (v := .ref q4) (ty := .array .int) (own := RX2) (ref := "LeansAgainstReason$Rack") (C := RX2) (T := TX2) (N := 12) hx hb hts (wu_all 2 (by decide)) tyX2 tyX2_ok nmX2 hown hK hP hD hS 0 rfl rfl 8 (by decide) (hts _ (wAt_in (p := 1062) (w := .fieldLink RX2 24 "LeansAgainstReason$Rack" "weight" "[I") (by decide +kernel))) (fun _ h9 => h9) rfl hin rfl (by decide +kernel) rfl rfl (Nat.le_of_ble_eq_true rfl) dX2_init_37 (fun H locs hP hD hS => ?_)
  have hP : va_P (dC, dI) vwC [(h0, .inr (2, [.int 0, .int 0, .int 0, .int 0, .ref q0, .ref q1, .ref q2, .ref q3, .ref q4, .null, .null, .null])), (q0, .inl (cA, (5, .inl (fun _ => 0)))), (q1, .inl (cA, (5, .inl (fun _ => 0)))), (q2, .inl (cA, (5, .inl (fun _ => 0)))), (q3, .inl (cA, (5, .inl (fun _ => 0)))), (q4, .inl (cA, (10, .inl (fun _ => 0))))] H := hP
  have hD : va_D A [(h0, .inr (2, [.int 0, .int 0, .int 0, .int 0, .ref q0, .ref q1, .ref q2, .ref q3, .ref q4, .null, .null, .null])), (q0, .inl (cA, (5, .inl (fun _ => 0)))), (q1, .inl (cA, (5, .inl (fun _ => 0)))), (q2, .inl (cA, (5, .inl (fun _ => 0)))), (q3, .inl (cA, (5, .inl (fun _ => 0)))), (q4, .inl (cA, (10, .inl (fun _ => 0))))] := hD
  refine lv_aload_n hx hb dX2_init_40 rfl (lv_at hl 0 rfl) ?_
  refine lv_bipush (v := 10) hx hb dX2_init_41 (by decide) ?_
  refine va_newa (atype := .int) (n := 10) (N' := 10) (a0 := (10, .inl (fun _ => 0))) hx hb (hts _ (wAt_in (p := 1095) (w := .arrayClass .int) (by decide +kernel))) rfl hK hP hD hS hA (fun _ => rfl) (by decide) (by decide) (by decide) (show 5 + 1 ≤ 8 by decide) (show 30 + 10 ≤ 70 by decide) dX2_init_43 (fun q5 cB H hK2 hP hD hS => ?_)
  have e9 := (cA_eq hK2).symm
  subst e9
  refine va_putF (D := (dC, dI)) (ci := 2) (v := .ref q5) (ty := .array .int) (own := RX2) (ref := "LeansAgainstReason$Rack") (C := RX2) (T := TX2) (N := 12) hx hb hts (wu_all 2 (by decide)) tyX2 tyX2_ok nmX2 hown hK hP hD hS 0 rfl rfl 9 (by decide) (hts _ (wAt_in (p := 1064) (w := .fieldLink RX2 27 "LeansAgainstReason$Rack" "place" "[I") (by decide +kernel))) (fun _ h9 => h9) rfl hin rfl (by decide +kernel) rfl rfl (Nat.le_of_ble_eq_true rfl) dX2_init_45 (fun H locs hP hD hS => ?_)
  have hP : va_P (dC, dI) vwC [(h0, .inr (2, [.int 0, .int 0, .int 0, .int 0, .ref q0, .ref q1, .ref q2, .ref q3, .ref q4, .ref q5, .null, .null])), (q0, .inl (cA, (5, .inl (fun _ => 0)))), (q1, .inl (cA, (5, .inl (fun _ => 0)))), (q2, .inl (cA, (5, .inl (fun _ => 0)))), (q3, .inl (cA, (5, .inl (fun _ => 0)))), (q4, .inl (cA, (10, .inl (fun _ => 0)))), (q5, .inl (cA, (10, .inl (fun _ => 0))))] H := hP
  have hD : va_D A [(h0, .inr (2, [.int 0, .int 0, .int 0, .int 0, .ref q0, .ref q1, .ref q2, .ref q3, .ref q4, .ref q5, .null, .null])), (q0, .inl (cA, (5, .inl (fun _ => 0)))), (q1, .inl (cA, (5, .inl (fun _ => 0)))), (q2, .inl (cA, (5, .inl (fun _ => 0)))), (q3, .inl (cA, (5, .inl (fun _ => 0)))), (q4, .inl (cA, (10, .inl (fun _ => 0)))), (q5, .inl (cA, (10, .inl (fun _ => 0))))] := hD
  refine lv_aload_n hx hb dX2_init_48 rfl (lv_at hl 0 rfl) ?_
  refine lv_bipush (v := 10) hx hb dX2_init_49 (by decide) ?_
  refine va_newa (atype := .int) (n := 10) (N' := 10) (a0 := (10, .inl (fun _ => 0))) hx hb (hts _ (wAt_in (p := 1095) (w := .arrayClass .int) (by decide +kernel))) rfl hK hP hD hS hA (fun _ => rfl) (by decide) (by decide) (by decide) (show 6 + 1 ≤ 8 by decide) (show 40 + 10 ≤ 70 by decide) dX2_init_51 (fun q6 cB H hK2 hP hD hS => ?_)
  have e9 := (cA_eq hK2).symm
  subst e9
  refine va_putF (D := (dC, dI)) (ci := 2) (v := .ref q6) (ty := .array .int) (own := RX2) (ref := "LeansAgainstReason$Rack") (C := RX2) (T := TX2) (N := 12) hx hb hts (wu_all 2 (by decide)) tyX2 tyX2_ok nmX2 hown hK hP hD hS 0 rfl rfl 10 (by decide) (hts _ (wAt_in (p := 1066) (w := .fieldLink RX2 30 "LeansAgainstReason$Rack" "holder" "[I") (by decide +kernel))) (fun _ h9 => h9) rfl hin rfl (by decide +kernel) rfl rfl (Nat.le_of_ble_eq_true rfl) dX2_init_53 (fun H locs hP hD hS => ?_)
  have hP : va_P (dC, dI) vwC [(h0, .inr (2, [.int 0, .int 0, .int 0, .int 0, .ref q0, .ref q1, .ref q2, .ref q3, .ref q4, .ref q5, .ref q6, .null])), (q0, .inl (cA, (5, .inl (fun _ => 0)))), (q1, .inl (cA, (5, .inl (fun _ => 0)))), (q2, .inl (cA, (5, .inl (fun _ => 0)))), (q3, .inl (cA, (5, .inl (fun _ => 0)))), (q4, .inl (cA, (10, .inl (fun _ => 0)))), (q5, .inl (cA, (10, .inl (fun _ => 0)))), (q6, .inl (cA, (10, .inl (fun _ => 0))))] H := hP
  have hD : va_D A [(h0, .inr (2, [.int 0, .int 0, .int 0, .int 0, .ref q0, .ref q1, .ref q2, .ref q3, .ref q4, .ref q5, .ref q6, .null])), (q0, .inl (cA, (5, .inl (fun _ => 0)))), (q1, .inl (cA, (5, .inl (fun _ => 0)))), (q2, .inl (cA, (5, .inl (fun _ => 0)))), (q3, .inl (cA, (5, .inl (fun _ => 0)))), (q4, .inl (cA, (10, .inl (fun _ => 0)))), (q5, .inl (cA, (10, .inl (fun _ => 0)))), (q6, .inl (cA, (10, .inl (fun _ => 0))))] := hD
  refine lv_aload_n hx hb dX2_init_56 rfl (lv_at hl 0 rfl) ?_
  refine lv_bipush (v := 20) hx hb dX2_init_57 (by decide) ?_
  refine va_newa (atype := .int) (n := 20) (N' := 20) (a0 := (20, .inl (fun _ => 0))) hx hb (hts _ (wAt_in (p := 1095) (w := .arrayClass .int) (by decide +kernel))) rfl hK hP hD hS hA (fun _ => rfl) (by decide) (by decide) (by decide) (show 7 + 1 ≤ 8 by decide) (show 50 + 20 ≤ 70 by decide) dX2_init_59 (fun q7 cB H hK2 hP hD hS => ?_)
  have e9 := (cA_eq hK2).symm
  subst e9
  refine va_putF (D := (dC, dI)) (ci := 2) (v := .ref q7) (ty := .array .int) (own := RX2) (ref := "LeansAgainstReason$Rack") (C := RX2) (T := TX2) (N := 12) hx hb hts (wu_all 2 (by decide)) tyX2 tyX2_ok nmX2 hown hK hP hD hS 0 rfl rfl 11 (by decide) (hts _ (wAt_in (p := 1068) (w := .fieldLink RX2 33 "LeansAgainstReason$Rack" "inPlace" "[I") (by decide +kernel))) (fun _ h9 => h9) rfl hin rfl (by decide +kernel) rfl rfl (Nat.le_of_ble_eq_true rfl) dX2_init_61 (fun H locs hP hD hS => ?_)
  have hP : va_P (dC, dI) vwC [(h0, .inr (2, [.int 0, .int 0, .int 0, .int 0, .ref q0, .ref q1, .ref q2, .ref q3, .ref q4, .ref q5, .ref q6, .ref q7])), (q0, .inl (cA, (5, .inl (fun _ => 0)))), (q1, .inl (cA, (5, .inl (fun _ => 0)))), (q2, .inl (cA, (5, .inl (fun _ => 0)))), (q3, .inl (cA, (5, .inl (fun _ => 0)))), (q4, .inl (cA, (10, .inl (fun _ => 0)))), (q5, .inl (cA, (10, .inl (fun _ => 0)))), (q6, .inl (cA, (10, .inl (fun _ => 0)))), (q7, .inl (cA, (20, .inl (fun _ => 0))))] H := hP
  have hD : va_D A [(h0, .inr (2, [.int 0, .int 0, .int 0, .int 0, .ref q0, .ref q1, .ref q2, .ref q3, .ref q4, .ref q5, .ref q6, .ref q7])), (q0, .inl (cA, (5, .inl (fun _ => 0)))), (q1, .inl (cA, (5, .inl (fun _ => 0)))), (q2, .inl (cA, (5, .inl (fun _ => 0)))), (q3, .inl (cA, (5, .inl (fun _ => 0)))), (q4, .inl (cA, (10, .inl (fun _ => 0)))), (q5, .inl (cA, (10, .inl (fun _ => 0)))), (q6, .inl (cA, (10, .inl (fun _ => 0)))), (q7, .inl (cA, (20, .inl (fun _ => 0))))] := hD
  refine lv_aload_n hx hb dX2_init_64 rfl (lv_at hl 0 rfl) ?_
  refine va_get (D := (dC, dI)) (ci := 2) (v := .ref q7) (own := RX2) (ref := "LeansAgainstReason$Rack") (C := RX2) (T := TX2) (N := 12) hx hb hts (wu_all 2 (by decide)) hown hK hP 0 rfl rfl 11 (by decide) (hts _ (wAt_in (p := 1068) (w := .fieldLink RX2 33 "LeansAgainstReason$Rack" "inPlace" "[I") (by decide +kernel))) (fun _ h9 => h9) rfl dX2_init_65 ?_
  refine lv_bipush (v := -9) hx hb dX2_init_68 (by decide) ?_
  have hPc := hP.sub (ws' := [(q7, .inl (cA, (20, .inl (fun _ => 0))))]) [8] rfl
  have hDc := hD.sub (ws' := [(q7, .inl (cA, (20, .inl (fun _ => 0))))]) [8] (by decide) rfl
  have hFc := va_free (wc := [(q7, .inl (cA, (20, .inl (fun _ => 0))))]) hD hS hA [8] rfl
  refine va_callv (va_runS (As := [.ref q7, .int (-9)]) (rest := []) ⟨hx, hb, hml, hown, hts⟩ (c_fill l dC dI cA q7 H.size (fun _ => 0) (-9)) ⟨callB_of 2 hts (gI (wAt_in (p := 1038) (w := .code yJ7_fill_53178 cJ7_fill_53178 4 none) (by decide +kernel))) rfl rfl rfl (hts _ (wAt_in (p := 1004) (w := .initialized "java/util/Arrays") (by decide +kernel))) (hts _ (wAt_in (p := 1036) (w := .methodLink RX2 36 yJ7_fill_53178) (by decide +kernel))) (by decide +kernel) ⟨Nat.le_of_ble_eq_true rfl, Nat.le_of_ble_eq_true rfl⟩, (hts _ (wAt_in (p := 1037) (w := .static yJ7_fill_53178) (by decide +kernel)))⟩ ⟨fun a U g mk z => by obtain ⟨z0, z1, zP, zK, zD⟩ := z; exact ⟨z0, z1, zP, va_K.moved (u := U) (U := U.calling g mk a) (Vm.Alike.refl U.vm) zK, zD⟩, fun U hU hW => ⟨rfl, by rw [hU], by rw [hU]; exact hPc, va_K.moved hW.alike hK, hDc.weaken (fun _ _ _ _ => trivial)⟩⟩ rfl rfl hl.1 rfl (lv_room (Nat.le_of_ble_eq_true rfl)) dX2_init_70 ⟨(show 8 + 0 ≤ 8 by decide), (show 70 + 0 ≤ 70 by decide)⟩) hS (fun x _ h => hFc x h) hFc (fun g t H1 locs ht hvm hw hB hz1 hk1 hS => ?_)
  obtain ⟨hP1, hD1⟩ := hB
  rw [ht] at hP1
  obtain ⟨hP, hD⟩ := va_join (wr := [(h0, .inr (2, [.int 0, .int 0, .int 0, .int 0, .ref q0, .ref q1, .ref q2, .ref q3, .ref q4, .ref q5, .ref q6, .ref q7])), (q0, .inl (cA, (5, .inl (fun _ => 0)))), (q1, .inl (cA, (5, .inl (fun _ => 0)))), (q2, .inl (cA, (5, .inl (fun _ => 0)))), (q3, .inl (cA, (5, .inl (fun _ => 0)))), (q4, .inl (cA, (10, .inl (fun _ => 0)))), (q5, .inl (cA, (10, .inl (fun _ => 0)))), (q6, .inl (cA, (10, .inl (fun _ => 0))))]) (w1 := [(q7, .inl (cA, (20, .inl g)))]) hP hD [8] [0, 1, 2, 3, 4, 5, 6, 7] rfl rfl (by decide) (by decide) hk1 hFc hP1 hD1
  generalize H1 = H at hP hS ⊢
  have hP : va_P (dC, dI) vwC [(h0, .inr (2, [.int 0, .int 0, .int 0, .int 0, .ref q0, .ref q1, .ref q2, .ref q3, .ref q4, .ref q5, .ref q6, .ref q7])), (q0, .inl (cA, (5, .inl (fun _ => 0)))), (q1, .inl (cA, (5, .inl (fun _ => 0)))), (q2, .inl (cA, (5, .inl (fun _ => 0)))), (q3, .inl (cA, (5, .inl (fun _ => 0)))), (q4, .inl (cA, (10, .inl (fun _ => 0)))), (q5, .inl (cA, (10, .inl (fun _ => 0)))), (q6, .inl (cA, (10, .inl (fun _ => 0)))), (q7, .inl (cA, (20, .inl fM9)))] H := P_congr (k := 8) (q := q7) (f := g) (g := fM9) hP rfl hw rfl
  have hD : va_D A [(h0, .inr (2, [.int 0, .int 0, .int 0, .int 0, .ref q0, .ref q1, .ref q2, .ref q3, .ref q4, .ref q5, .ref q6, .ref q7])), (q0, .inl (cA, (5, .inl (fun _ => 0)))), (q1, .inl (cA, (5, .inl (fun _ => 0)))), (q2, .inl (cA, (5, .inl (fun _ => 0)))), (q3, .inl (cA, (5, .inl (fun _ => 0)))), (q4, .inl (cA, (10, .inl (fun _ => 0)))), (q5, .inl (cA, (10, .inl (fun _ => 0)))), (q6, .inl (cA, (10, .inl (fun _ => 0)))), (q7, .inl (cA, (20, .inl fM9)))] := D_congr (k := 8) (q := q7) hD rfl rfl
  refine W.widen (k := 8) (n := 70) (by decide) (by decide) ?_
  refine W.vret hx hb hr (fun t ht hW => ⟨⟨(fun i => ([q0, q1, q2, q3, q4, q5, q6, q7] : List Nat).getD i 0), rfl, trivial, by rw [ht]; exact hP, hD⟩, hS.F ht⟩) hS.2.2 dX2_init_73
set_option maxHeartbeats 4000000 in
set_option maxRecDepth 100000 in
/-- Letters() -/
theorem c_X0_init (l : Launch) (dC : Nat → ClassId) (dI : Nat → Nat → Nat) (cA : ClassId) (h0 sz : Nat) : Met l yX0_init (.code yX0_init cX0_init 1 none :: lwg) ({ frames := 1, cells := 1, slots := 96, locals := 12 }) (va_Pc [.ref h0] (fun U => U.heap.size = sz ∧ va_P (dC, dI) vwC [(h0, .inr (0, [.null, .int 0]))] U.heap ∧ va_K (dC, dI) vwC [(cA, .int)] U ∧ va_D (fun _ => True) [(h0, .inr (0, [.null, .int 0]))])) (va_Qv (fun _ : Nat → Nat => True) (fun a t => va_P (dC, dI) vwC (cwL cA h0 a) t.heap ∧ va_D (va_A [(h0, .inr (0, [.null, .int 0]))] sz) (cwL cA h0 a)) (va_A [(h0, .inr (0, [.null, .int 0]))] sz)) 1 96 (va_A [(h0, .inr (0, [.null, .int 0]))] sz) := by
  refine Met.ofW (cc := cX0_init) (maxL := 1) (ret := none) (by decide) rfl ?_
  intro p e s m args below meth c s₁ B hml hv
  obtain ⟨rfl, hsz, hP, hK, hD0⟩ := hv
  have hx := B.exec
  have hb := B.bytes
  have hr := B.returns
  have hts0 := atoms_spec (ws := .code yX0_init cX0_init 1 none :: lwg) B.pre
  have hts : ∀ w ∈ lwg, w.before ([Value.ref h0] : List Value).toArray s = true := fun w hw => hts0 w (List.mem_cons_of_mem _ hw)
  have hown : s.vm.findClass RX0 = some m.cls := findClass_of_methodNamed B.named
  have hlocks := B.notSynchronized
  have hin : meth.name = "<init>" := (name_of_methodNamed B.named B.method).1
  subst hsz
  have hD := hD0.self (sz := s.heap.size)
  generalize hAe : va_A [(h0, .inr (0, [.null, .int 0]))] s.heap.size = A at hD ⊢
  have hA : ∀ q : Nat, s.heap.size ≤ q → A q := fun q h => by rw [← hAe]; exact Or.inr h
  have hS : va_S A s.heap s.heap [] := va_S.rf
  have hl := lv_entry ([.ref h0]) (n := 1) (Nat.le_of_ble_eq_true rfl)
  rw [lg_entry_eq]
  generalize (lg_sl ([.ref h0]) ++ List.replicate (1 - (lg_sl ([.ref h0])).length) Slot.unset).toArray = ls at hl ⊢
  have hl : lv_has ls 1 [(0, .ref h0)] := hl
  refine lv_aload_n hx hb dX0_init_0 rfl (lv_at hl 0 rfl) ?_
  refine W.objInit hx hb hown (hts _ (wAt_in (p := 1112) (w := .methodLink RX0 3 objectInit) (by decide +kernel))) (hts _ (wAt_in (p := 1022) (w := .instanceMethod objectInit) (by decide +kernel))) (hts _ (wAt_in (p := 1023) (w := .code objectInit ⟨#[0xb1]⟩ 1 none) (by decide +kernel))) rfl (by rw [hml]; exact hl.1) rfl dX0_init_1 (Nat.le_of_ble_eq_true rfl) (Nat.le_of_ble_eq_true rfl) ?_
  refine W.eq (g2 := F0 m 4 ls []) rfl ?_
  refine lv_aload_n hx hb dX0_init_4 rfl (lv_at hl 0 rfl) ?_
  refine lv_bipush (v := 96) hx hb dX0_init_5 (by decide) ?_
  refine va_newa (atype := .int) (n := 96) (N' := 96) (a0 := (96, .inl (fun _ => 0))) hx hb (hts _ (wAt_in (p := 1095) (w := .arrayClass .int) (by decide +kernel))) rfl hK hP hD hS hA (fun _ => rfl) (by decide) (by decide) (by decide) (show 0 + 1 ≤ 1 by decide) (show 0 + 96 ≤ 96 by decide) dX0_init_7 (fun q0 cB H hK2 hP hD hS => ?_)
  have e9 := (cA_eq hK2).symm
  subst e9
  refine va_putF (D := (dC, dI)) (ci := 0) (v := .ref q0) (ty := .array .int) (own := RX0) (ref := "LeansAgainstReason$Letters") (C := RX0) (T := TX0) (N := 2) hx hb hts (wu_all 0 (by decide)) tyX0 tyX0_ok nmX0 hown hK hP hD hS 0 rfl rfl 0 (by decide) (hts _ (wAt_in (p := 1113) (w := .fieldLink RX0 9 "LeansAgainstReason$Letters" "told" "[I") (by decide +kernel))) (fun _ h9 => h9) rfl hin rfl (by decide +kernel) rfl rfl (Nat.le_of_ble_eq_true rfl) dX0_init_9 (fun H locs hP hD hS => ?_)
  have hP : va_P (dC, dI) vwC [(h0, .inr (0, [.ref q0, .int 0])), (q0, .inl (cA, (96, .inl (fun _ => 0))))] H := hP
  have hD : va_D A [(h0, .inr (0, [.ref q0, .int 0])), (q0, .inl (cA, (96, .inl (fun _ => 0))))] := hD
  refine W.widen (k := 1) (n := 96) (by decide) (by decide) ?_
  refine W.vret hx hb hr (fun t ht hW => ⟨⟨(fun i => ([q0] : List Nat).getD i 0), rfl, trivial, by rw [ht]; exact hP, hD⟩, hS.F ht⟩) hS.2.2 dX0_init_12
set_option maxHeartbeats 4000000 in
set_option maxRecDepth 100000 in
/-- Mind() -/
theorem c_X1_init (l : Launch) (dC : Nat → ClassId) (dI : Nat → Nat → Nat) (cA : ClassId) (h0 sz : Nat) : Met l yX1_init (.code yX1_init cX1_init 1 none :: lwg) ({ frames := 2, cells := 19, slots := 168, locals := 68 }) (va_Pc [.ref h0] (fun U => U.heap.size = sz ∧ va_P (dC, dI) vwC [(h0, .inr (1, [.null, .null, .null]))] U.heap ∧ va_K (dC, dI) vwC [(cA, .int)] U ∧ va_D (fun _ => True) [(h0, .inr (1, [.null, .null, .null]))])) (va_Qv (fun _ : Nat → Nat => True) (fun a t => va_P (dC, dI) vwC (cwM cA h0 a) t.heap ∧ va_D (va_A [(h0, .inr (1, [.null, .null, .null]))] sz) (cwM cA h0 a)) (va_A [(h0, .inr (1, [.null, .null, .null]))] sz)) 19 168 (va_A [(h0, .inr (1, [.null, .null, .null]))] sz) := by
  refine Met.ofW (cc := cX1_init) (maxL := 1) (ret := none) (by decide) rfl ?_
  intro p e s m args below meth c s₁ B hml hv
  obtain ⟨rfl, hsz, hP, hK, hD0⟩ := hv
  have hx := B.exec
  have hb := B.bytes
  have hr := B.returns
  have hts0 := atoms_spec (ws := .code yX1_init cX1_init 1 none :: lwg) B.pre
  have hts : ∀ w ∈ lwg, w.before ([Value.ref h0] : List Value).toArray s = true := fun w hw => hts0 w (List.mem_cons_of_mem _ hw)
  have hown : s.vm.findClass RX1 = some m.cls := findClass_of_methodNamed B.named
  have hlocks := B.notSynchronized
  have hin : meth.name = "<init>" := (name_of_methodNamed B.named B.method).1
  subst hsz
  have hD := hD0.self (sz := s.heap.size)
  generalize hAe : va_A [(h0, .inr (1, [.null, .null, .null]))] s.heap.size = A at hD ⊢
  have hA : ∀ q : Nat, s.heap.size ≤ q → A q := fun q h => by rw [← hAe]; exact Or.inr h
  have hS : va_S A s.heap s.heap [] := va_S.rf
  have hl := lv_entry ([.ref h0]) (n := 1) (Nat.le_of_ble_eq_true rfl)
  rw [lg_entry_eq]
  generalize (lg_sl ([.ref h0]) ++ List.replicate (1 - (lg_sl ([.ref h0])).length) Slot.unset).toArray = ls at hl ⊢
  have hl : lv_has ls 1 [(0, .ref h0)] := hl
  refine lv_aload_n hx hb dX1_init_0 rfl (lv_at hl 0 rfl) ?_
  refine W.objInit hx hb hown (hts _ (wAt_in (p := 1029) (w := .methodLink RX1 3 objectInit) (by decide +kernel))) (hts _ (wAt_in (p := 1022) (w := .instanceMethod objectInit) (by decide +kernel))) (hts _ (wAt_in (p := 1023) (w := .code objectInit ⟨#[0xb1]⟩ 1 none) (by decide +kernel))) rfl (by rw [hml]; exact hl.1) rfl dX1_init_1 (Nat.le_of_ble_eq_true rfl) (Nat.le_of_ble_eq_true rfl) ?_
  refine W.eq (g2 := F0 m 4 ls []) rfl ?_
  refine lv_aload_n hx hb dX1_init_4 rfl (lv_at hl 0 rfl) ?_
  refine va_new (ci := 2) (fs := [.int 0, .int 0, .int 0, .int 0, .null, .null, .null, .null, .null, .null, .null, .null]) (C := RX2) (T := TX2) (N := 12) hx hb hts (wu_all 2 (by decide)) tyX2 tyX2_ok hown (hts _ (wAt_in (p := 1030) (w := .classLink RX1 9 RX2) (by decide +kernel))) (hts _ (wAt_in (p := 1031) (w := .instantiable RX2 12) (by decide +kernel))) (hts _ (wAt_in (p := 1003) (w := .initialized RX2) (by decide +kernel))) hK hP hD hS hA rfl (fun j hj => by rcases (show j = 0 ∨ j = 1 ∨ j = 2 ∨ j = 3 ∨ j = 4 ∨ j = 5 ∨ j = 6 ∨ j = 7 ∨ j = 8 ∨ j = 9 ∨ j = 10 ∨ j = 11 by omega) with rfl | rfl | rfl | rfl | rfl | rfl | rfl | rfl | rfl | rfl | rfl | rfl <;> rfl) (show 0 + 1 ≤ 19 by decide) (show 0 + 12 ≤ 168 by decide) dX1_init_5 (fun q0 H hP hD hS => ?_)
  have hP : va_P (dC, dI) vwC [(h0, .inr (1, [.null, .null, .null])), (q0, .inr (2, [.int 0, .int 0, .int 0, .int 0, .null, .null, .null, .null, .null, .null, .null, .null]))] H := hP
  have hD : va_D A [(h0, .inr (1, [.null, .null, .null])), (q0, .inr (2, [.int 0, .int 0, .int 0, .int 0, .null, .null, .null, .null, .null, .null, .null, .null]))] := hD
  refine lv_dup hx hb dX1_init_8 rfl ?_
  have hPc := hP.sub (ws' := [(q0, .inr (2, [.int 0, .int 0, .int 0, .int 0, .null, .null, .null, .null, .null, .null, .null, .null]))]) [1] rfl
  have hDc := hD.sub (ws' := [(q0, .inr (2, [.int 0, .int 0, .int 0, .int 0, .null, .null, .null, .null, .null, .null, .null, .null]))]) [1] (by decide) rfl
  have hFc := va_free (wc := [(q0, .inr (2, [.int 0, .int 0, .int 0, .int 0, .null, .null, .null, .null, .null, .null, .null, .null]))]) hD hS hA [1] rfl
  refine va_callv (va_runI (As := []) (rest := [.ref q0, .ref h0]) ⟨hx, hb, hml, hown, hts⟩ (c_X2_init l dC dI cA q0 H.size) (cwI 0 hts (gI (wAt_in (p := 1034) (w := .code yX2_init cX2_init 1 none) (by decide +kernel))) rfl rfl rfl (hts _ (wAt_in (p := 1003) (w := .initialized RX2) (by decide +kernel))) (hts _ (wAt_in (p := 1032) (w := .methodLink RX1 11 yX2_init) (by decide +kernel))) (hts _ (wAt_in (p := 1033) (w := .instanceMethod yX2_init) (by decide +kernel))) rfl (by decide +kernel) ⟨Nat.le_of_ble_eq_true rfl, Nat.le_of_ble_eq_true rfl⟩) ⟨fun a U g mk z => by obtain ⟨z0, z1, zP, zK, zD⟩ := z; exact ⟨z0, z1, zP, va_K.moved (u := U) (U := U.calling g mk a) (Vm.Alike.refl U.vm) zK, zD⟩, fun U hU hW => ⟨rfl, by rw [hU], by rw [hU]; exact hPc, va_K.moved hW.alike hK, hDc.weaken (fun _ _ _ _ => trivial)⟩⟩ rfl rfl hl.1 rfl (lv_room (Nat.le_of_ble_eq_true rfl)) dX1_init_9 ⟨(show 1 + 8 ≤ 19 by decide), (show 12 + 70 ≤ 168 by decide)⟩) hS (fun x _ h => hFc x h) hFc (fun u t H1 locs ht hvm hw hB hz1 hk1 hS => ?_)
  obtain ⟨a1, rfl⟩ : ∃ z, z = u := ⟨_, rfl⟩
  obtain ⟨hP1, hD1⟩ := hB
  rw [ht] at hP1
  obtain ⟨hP, hD⟩ := va_join (wr := [(h0, .inr (1, [.null, .null, .null]))]) (w1 := cwR cA q0 a1) hP hD [1] [0] rfl rfl (by decide) (by decide) hk1 hFc hP1 hD1
  generalize H1 = H at hP hS ⊢
  have hP : va_P (dC, dI) vwC [(h0, .inr (1, [.null, .null, .null])), (q0, .inr (2, [.int 0, .int 0, .int 0, .int 0, .ref (a1 0), .ref (a1 1), .ref (a1 2), .ref (a1 3), .ref (a1 4), .ref (a1 5), .ref (a1 6), .ref (a1 7)])), (a1 0, .inl (cA, (5, .inl (fun _ => 0)))), (a1 1, .inl (cA, (5, .inl (fun _ => 0)))), (a1 2, .inl (cA, (5, .inl (fun _ => 0)))), (a1 3, .inl (cA, (5, .inl (fun _ => 0)))), (a1 4, .inl (cA, (10, .inl (fun _ => 0)))), (a1 5, .inl (cA, (10, .inl (fun _ => 0)))), (a1 6, .inl (cA, (10, .inl (fun _ => 0)))), (a1 7, .inl (cA, (20, .inl fM9)))] H := hP
  have hD : va_D A [(h0, .inr (1, [.null, .null, .null])), (q0, .inr (2, [.int 0, .int 0, .int 0, .int 0, .ref (a1 0), .ref (a1 1), .ref (a1 2), .ref (a1 3), .ref (a1 4), .ref (a1 5), .ref (a1 6), .ref (a1 7)])), (a1 0, .inl (cA, (5, .inl (fun _ => 0)))), (a1 1, .inl (cA, (5, .inl (fun _ => 0)))), (a1 2, .inl (cA, (5, .inl (fun _ => 0)))), (a1 3, .inl (cA, (5, .inl (fun _ => 0)))), (a1 4, .inl (cA, (10, .inl (fun _ => 0)))), (a1 5, .inl (cA, (10, .inl (fun _ => 0)))), (a1 6, .inl (cA, (10, .inl (fun _ => 0)))), (a1 7, .inl (cA, (20, .inl fM9)))] := hD
  refine va_putF (D := (dC, dI)) (ci := 1) (v := .ref q0) (ty := .object "LeansAgainstReason$Rack") (own := RX1) (ref := "LeansAgainstReason$Mind") (C := RX1) (T := TX1) (N := 3) hx hb hts (wu_all 1 (by decide)) tyX1 tyX1_ok nmX1 hown hK hP hD hS 0 rfl rfl 0 (by decide) (hts _ (wAt_in (p := 1096) (w := .fieldLink RX1 12 "LeansAgainstReason$Mind" "now" "LLeansAgainstReason$Rack;") (by decide +kernel))) (fun _ h9 => h9) rfl hin rfl (by decide +kernel) rfl rfl (Nat.le_of_ble_eq_true rfl) dX1_init_12 (fun H locs hP hD hS => ?_)
  have hP : va_P (dC, dI) vwC [(h0, .inr (1, [.ref q0, .null, .null])), (q0, .inr (2, [.int 0, .int 0, .int 0, .int 0, .ref (a1 0), .ref (a1 1), .ref (a1 2), .ref (a1 3), .ref (a1 4), .ref (a1 5), .ref (a1 6), .ref (a1 7)])), (a1 0, .inl (cA, (5, .inl (fun _ => 0)))), (a1 1, .inl (cA, (5, .inl (fun _ => 0)))), (a1 2, .inl (cA, (5, .inl (fun _ => 0)))), (a1 3, .inl (cA, (5, .inl (fun _ => 0)))), (a1 4, .inl (cA, (10, .inl (fun _ => 0)))), (a1 5, .inl (cA, (10, .inl (fun _ => 0)))), (a1 6, .inl (cA, (10, .inl (fun _ => 0)))), (a1 7, .inl (cA, (20, .inl fM9)))] H := hP
  have hD : va_D A [(h0, .inr (1, [.ref q0, .null, .null])), (q0, .inr (2, [.int 0, .int 0, .int 0, .int 0, .ref (a1 0), .ref (a1 1), .ref (a1 2), .ref (a1 3), .ref (a1 4), .ref (a1 5), .ref (a1 6), .ref (a1 7)])), (a1 0, .inl (cA, (5, .inl (fun _ => 0)))), (a1 1, .inl (cA, (5, .inl (fun _ => 0)))), (a1 2, .inl (cA, (5, .inl (fun _ => 0)))), (a1 3, .inl (cA, (5, .inl (fun _ => 0)))), (a1 4, .inl (cA, (10, .inl (fun _ => 0)))), (a1 5, .inl (cA, (10, .inl (fun _ => 0)))), (a1 6, .inl (cA, (10, .inl (fun _ => 0)))), (a1 7, .inl (cA, (20, .inl fM9)))] := hD
  refine lv_aload_n hx hb dX1_init_15 rfl (lv_at hl 0 rfl) ?_
  refine va_new (ci := 2) (fs := [.int 0, .int 0, .int 0, .int 0, .null, .null, .null, .null, .null, .null, .null, .null]) (C := RX2) (T := TX2) (N := 12) hx hb hts (wu_all 2 (by decide)) tyX2 tyX2_ok hown (hts _ (wAt_in (p := 1030) (w := .classLink RX1 9 RX2) (by decide +kernel))) (hts _ (wAt_in (p := 1031) (w := .instantiable RX2 12) (by decide +kernel))) (hts _ (wAt_in (p := 1003) (w := .initialized RX2) (by decide +kernel))) hK hP hD hS hA rfl (fun j hj => by rcases (show j = 0 ∨ j = 1 ∨ j = 2 ∨ j = 3 ∨ j = 4 ∨ j = 5 ∨ j = 6 ∨ j = 7 ∨ j = 8 ∨ j = 9 ∨ j = 10 ∨ j = 11 by omega) with rfl | rfl | rfl | rfl | rfl | rfl | rfl | rfl | rfl | rfl | rfl | rfl <;> rfl) (show 9 + 1 ≤ 19 by decide) (show 82 + 12 ≤ 168 by decide) dX1_init_16 (fun q2 H hP hD hS => ?_)
  have hP : va_P (dC, dI) vwC [(h0, .inr (1, [.ref q0, .null, .null])), (q0, .inr (2, [.int 0, .int 0, .int 0, .int 0, .ref (a1 0), .ref (a1 1), .ref (a1 2), .ref (a1 3), .ref (a1 4), .ref (a1 5), .ref (a1 6), .ref (a1 7)])), (a1 0, .inl (cA, (5, .inl (fun _ => 0)))), (a1 1, .inl (cA, (5, .inl (fun _ => 0)))), (a1 2, .inl (cA, (5, .inl (fun _ => 0)))), (a1 3, .inl (cA, (5, .inl (fun _ => 0)))), (a1 4, .inl (cA, (10, .inl (fun _ => 0)))), (a1 5, .inl (cA, (10, .inl (fun _ => 0)))), (a1 6, .inl (cA, (10, .inl (fun _ => 0)))), (a1 7, .inl (cA, (20, .inl fM9))), (q2, .inr (2, [.int 0, .int 0, .int 0, .int 0, .null, .null, .null, .null, .null, .null, .null, .null]))] H := hP
  have hD : va_D A [(h0, .inr (1, [.ref q0, .null, .null])), (q0, .inr (2, [.int 0, .int 0, .int 0, .int 0, .ref (a1 0), .ref (a1 1), .ref (a1 2), .ref (a1 3), .ref (a1 4), .ref (a1 5), .ref (a1 6), .ref (a1 7)])), (a1 0, .inl (cA, (5, .inl (fun _ => 0)))), (a1 1, .inl (cA, (5, .inl (fun _ => 0)))), (a1 2, .inl (cA, (5, .inl (fun _ => 0)))), (a1 3, .inl (cA, (5, .inl (fun _ => 0)))), (a1 4, .inl (cA, (10, .inl (fun _ => 0)))), (a1 5, .inl (cA, (10, .inl (fun _ => 0)))), (a1 6, .inl (cA, (10, .inl (fun _ => 0)))), (a1 7, .inl (cA, (20, .inl fM9))), (q2, .inr (2, [.int 0, .int 0, .int 0, .int 0, .null, .null, .null, .null, .null, .null, .null, .null]))] := hD
  refine lv_dup hx hb dX1_init_19 rfl ?_
  have hPc := hP.sub (ws' := [(q2, .inr (2, [.int 0, .int 0, .int 0, .int 0, .null, .null, .null, .null, .null, .null, .null, .null]))]) [10] rfl
  have hDc := hD.sub (ws' := [(q2, .inr (2, [.int 0, .int 0, .int 0, .int 0, .null, .null, .null, .null, .null, .null, .null, .null]))]) [10] (by decide) rfl
  have hFc := va_free (wc := [(q2, .inr (2, [.int 0, .int 0, .int 0, .int 0, .null, .null, .null, .null, .null, .null, .null, .null]))]) hD hS hA [10] rfl
  refine va_callv (va_runI (As := []) (rest := [.ref q2, .ref h0]) ⟨hx, hb, hml, hown, hts⟩ (c_X2_init l dC dI cA q2 H.size) (cwI 0 hts (gI (wAt_in (p := 1034) (w := .code yX2_init cX2_init 1 none) (by decide +kernel))) rfl rfl rfl (hts _ (wAt_in (p := 1003) (w := .initialized RX2) (by decide +kernel))) (hts _ (wAt_in (p := 1032) (w := .methodLink RX1 11 yX2_init) (by decide +kernel))) (hts _ (wAt_in (p := 1033) (w := .instanceMethod yX2_init) (by decide +kernel))) rfl (by decide +kernel) ⟨Nat.le_of_ble_eq_true rfl, Nat.le_of_ble_eq_true rfl⟩) ⟨fun a U g mk z => by obtain ⟨z0, z1, zP, zK, zD⟩ := z; exact ⟨z0, z1, zP, va_K.moved (u := U) (U := U.calling g mk a) (Vm.Alike.refl U.vm) zK, zD⟩, fun U hU hW => ⟨rfl, by rw [hU], by rw [hU]; exact hPc, va_K.moved hW.alike hK, hDc.weaken (fun _ _ _ _ => trivial)⟩⟩ rfl rfl hl.1 rfl (lv_room (Nat.le_of_ble_eq_true rfl)) dX1_init_20 ⟨(show 10 + 8 ≤ 19 by decide), (show 94 + 70 ≤ 168 by decide)⟩) hS (fun x _ h => hFc x h) hFc (fun u t H1 locs ht hvm hw hB hz1 hk1 hS => ?_)
  obtain ⟨a3, rfl⟩ : ∃ z, z = u := ⟨_, rfl⟩
  obtain ⟨hP1, hD1⟩ := hB
  rw [ht] at hP1
  obtain ⟨hP, hD⟩ := va_join (wr := [(h0, .inr (1, [.ref q0, .null, .null])), (q0, .inr (2, [.int 0, .int 0, .int 0, .int 0, .ref (a1 0), .ref (a1 1), .ref (a1 2), .ref (a1 3), .ref (a1 4), .ref (a1 5), .ref (a1 6), .ref (a1 7)])), (a1 0, .inl (cA, (5, .inl (fun _ => 0)))), (a1 1, .inl (cA, (5, .inl (fun _ => 0)))), (a1 2, .inl (cA, (5, .inl (fun _ => 0)))), (a1 3, .inl (cA, (5, .inl (fun _ => 0)))), (a1 4, .inl (cA, (10, .inl (fun _ => 0)))), (a1 5, .inl (cA, (10, .inl (fun _ => 0)))), (a1 6, .inl (cA, (10, .inl (fun _ => 0)))), (a1 7, .inl (cA, (20, .inl fM9)))]) (w1 := cwR cA q2 a3) hP hD [10] [0, 1, 2, 3, 4, 5, 6, 7, 8, 9] rfl rfl (by decide) (by decide) hk1 hFc hP1 hD1
  generalize H1 = H at hP hS ⊢
  have hP : va_P (dC, dI) vwC [(h0, .inr (1, [.ref q0, .null, .null])), (q0, .inr (2, [.int 0, .int 0, .int 0, .int 0, .ref (a1 0), .ref (a1 1), .ref (a1 2), .ref (a1 3), .ref (a1 4), .ref (a1 5), .ref (a1 6), .ref (a1 7)])), (a1 0, .inl (cA, (5, .inl (fun _ => 0)))), (a1 1, .inl (cA, (5, .inl (fun _ => 0)))), (a1 2, .inl (cA, (5, .inl (fun _ => 0)))), (a1 3, .inl (cA, (5, .inl (fun _ => 0)))), (a1 4, .inl (cA, (10, .inl (fun _ => 0)))), (a1 5, .inl (cA, (10, .inl (fun _ => 0)))), (a1 6, .inl (cA, (10, .inl (fun _ => 0)))), (a1 7, .inl (cA, (20, .inl fM9))), (q2, .inr (2, [.int 0, .int 0, .int 0, .int 0, .ref (a3 0), .ref (a3 1), .ref (a3 2), .ref (a3 3), .ref (a3 4), .ref (a3 5), .ref (a3 6), .ref (a3 7)])), (a3 0, .inl (cA, (5, .inl (fun _ => 0)))), (a3 1, .inl (cA, (5, .inl (fun _ => 0)))), (a3 2, .inl (cA, (5, .inl (fun _ => 0)))), (a3 3, .inl (cA, (5, .inl (fun _ => 0)))), (a3 4, .inl (cA, (10, .inl (fun _ => 0)))), (a3 5, .inl (cA, (10, .inl (fun _ => 0)))), (a3 6, .inl (cA, (10, .inl (fun _ => 0)))), (a3 7, .inl (cA, (20, .inl fM9)))] H := hP
  have hD : va_D A [(h0, .inr (1, [.ref q0, .null, .null])), (q0, .inr (2, [.int 0, .int 0, .int 0, .int 0, .ref (a1 0), .ref (a1 1), .ref (a1 2), .ref (a1 3), .ref (a1 4), .ref (a1 5), .ref (a1 6), .ref (a1 7)])), (a1 0, .inl (cA, (5, .inl (fun _ => 0)))), (a1 1, .inl (cA, (5, .inl (fun _ => 0)))), (a1 2, .inl (cA, (5, .inl (fun _ => 0)))), (a1 3, .inl (cA, (5, .inl (fun _ => 0)))), (a1 4, .inl (cA, (10, .inl (fun _ => 0)))), (a1 5, .inl (cA, (10, .inl (fun _ => 0)))), (a1 6, .inl (cA, (10, .inl (fun _ => 0)))), (a1 7, .inl (cA, (20, .inl fM9))), (q2, .inr (2, [.int 0, .int 0, .int 0, .int 0, .ref (a3 0), .ref (a3 1), .ref (a3 2), .ref (a3 3), .ref (a3 4), .ref (a3 5), .ref (a3 6), .ref (a3 7)])), (a3 0, .inl (cA, (5, .inl (fun _ => 0)))), (a3 1, .inl (cA, (5, .inl (fun _ => 0)))), (a3 2, .inl (cA, (5, .inl (fun _ => 0)))), (a3 3, .inl (cA, (5, .inl (fun _ => 0)))), (a3 4, .inl (cA, (10, .inl (fun _ => 0)))), (a3 5, .inl (cA, (10, .inl (fun _ => 0)))), (a3 6, .inl (cA, (10, .inl (fun _ => 0)))), (a3 7, .inl (cA, (20, .inl fM9)))] := hD
  refine va_putF (D := (dC, dI)) (ci := 1) (v := .ref q2) (ty := .object "LeansAgainstReason$Rack") (own := RX1) (ref := "LeansAgainstReason$Mind") (C := RX1) (T := TX1) (N := 3) hx hb hts (wu_all 1 (by decide)) tyX1 tyX1_ok nmX1 hown hK hP hD hS 0 rfl rfl 1 (by decide) (hts _ (wAt_in (p := 1098) (w := .fieldLink RX1 18 "LeansAgainstReason$Mind" "then" "LLeansAgainstReason$Rack;") (by decide +kernel))) (fun _ h9 => h9) rfl hin rfl (by decide +kernel) rfl rfl (Nat.le_of_ble_eq_true rfl) dX1_init_23 (fun H locs hP hD hS => ?_)
  have hP : va_P (dC, dI) vwC [(h0, .inr (1, [.ref q0, .ref q2, .null])), (q0, .inr (2, [.int 0, .int 0, .int 0, .int 0, .ref (a1 0), .ref (a1 1), .ref (a1 2), .ref (a1 3), .ref (a1 4), .ref (a1 5), .ref (a1 6), .ref (a1 7)])), (a1 0, .inl (cA, (5, .inl (fun _ => 0)))), (a1 1, .inl (cA, (5, .inl (fun _ => 0)))), (a1 2, .inl (cA, (5, .inl (fun _ => 0)))), (a1 3, .inl (cA, (5, .inl (fun _ => 0)))), (a1 4, .inl (cA, (10, .inl (fun _ => 0)))), (a1 5, .inl (cA, (10, .inl (fun _ => 0)))), (a1 6, .inl (cA, (10, .inl (fun _ => 0)))), (a1 7, .inl (cA, (20, .inl fM9))), (q2, .inr (2, [.int 0, .int 0, .int 0, .int 0, .ref (a3 0), .ref (a3 1), .ref (a3 2), .ref (a3 3), .ref (a3 4), .ref (a3 5), .ref (a3 6), .ref (a3 7)])), (a3 0, .inl (cA, (5, .inl (fun _ => 0)))), (a3 1, .inl (cA, (5, .inl (fun _ => 0)))), (a3 2, .inl (cA, (5, .inl (fun _ => 0)))), (a3 3, .inl (cA, (5, .inl (fun _ => 0)))), (a3 4, .inl (cA, (10, .inl (fun _ => 0)))), (a3 5, .inl (cA, (10, .inl (fun _ => 0)))), (a3 6, .inl (cA, (10, .inl (fun _ => 0)))), (a3 7, .inl (cA, (20, .inl fM9)))] H := hP
  have hD : va_D A [(h0, .inr (1, [.ref q0, .ref q2, .null])), (q0, .inr (2, [.int 0, .int 0, .int 0, .int 0, .ref (a1 0), .ref (a1 1), .ref (a1 2), .ref (a1 3), .ref (a1 4), .ref (a1 5), .ref (a1 6), .ref (a1 7)])), (a1 0, .inl (cA, (5, .inl (fun _ => 0)))), (a1 1, .inl (cA, (5, .inl (fun _ => 0)))), (a1 2, .inl (cA, (5, .inl (fun _ => 0)))), (a1 3, .inl (cA, (5, .inl (fun _ => 0)))), (a1 4, .inl (cA, (10, .inl (fun _ => 0)))), (a1 5, .inl (cA, (10, .inl (fun _ => 0)))), (a1 6, .inl (cA, (10, .inl (fun _ => 0)))), (a1 7, .inl (cA, (20, .inl fM9))), (q2, .inr (2, [.int 0, .int 0, .int 0, .int 0, .ref (a3 0), .ref (a3 1), .ref (a3 2), .ref (a3 3), .ref (a3 4), .ref (a3 5), .ref (a3 6), .ref (a3 7)])), (a3 0, .inl (cA, (5, .inl (fun _ => 0)))), (a3 1, .inl (cA, (5, .inl (fun _ => 0)))), (a3 2, .inl (cA, (5, .inl (fun _ => 0)))), (a3 3, .inl (cA, (5, .inl (fun _ => 0)))), (a3 4, .inl (cA, (10, .inl (fun _ => 0)))), (a3 5, .inl (cA, (10, .inl (fun _ => 0)))), (a3 6, .inl (cA, (10, .inl (fun _ => 0)))), (a3 7, .inl (cA, (20, .inl fM9)))] := hD
  refine lv_aload_n hx hb dX1_init_26 rfl (lv_at hl 0 rfl) ?_
  refine lv_iconst (v := 4) hx hb dX1_init_27 (by decide) ?_
  refine va_newa (atype := .int) (n := 4) (N' := 4) (a0 := (4, .inl (fun _ => 0))) hx hb (hts _ (wAt_in (p := 1095) (w := .arrayClass .int) (by decide +kernel))) rfl hK hP hD hS hA (fun _ => rfl) (by decide) (by decide) (by decide) (show 18 + 1 ≤ 19 by decide) (show 164 + 4 ≤ 168 by decide) dX1_init_28 (fun q4 cB H hK2 hP hD hS => ?_)
  have e9 := (cA_eq hK2).symm
  subst e9
  refine va_putF (D := (dC, dI)) (ci := 1) (v := .ref q4) (ty := .array .int) (own := RX1) (ref := "LeansAgainstReason$Mind") (C := RX1) (T := TX1) (N := 3) hx hb hts (wu_all 1 (by decide)) tyX1 tyX1_ok nmX1 hown hK hP hD hS 0 rfl rfl 2 (by decide) (hts _ (wAt_in (p := 1099) (w := .fieldLink RX1 21 "LeansAgainstReason$Mind" "outcomes" "[I") (by decide +kernel))) (fun _ h9 => h9) rfl hin rfl (by decide +kernel) rfl rfl (Nat.le_of_ble_eq_true rfl) dX1_init_30 (fun H locs hP hD hS => ?_)
  have hP : va_P (dC, dI) vwC [(h0, .inr (1, [.ref q0, .ref q2, .ref q4])), (q0, .inr (2, [.int 0, .int 0, .int 0, .int 0, .ref (a1 0), .ref (a1 1), .ref (a1 2), .ref (a1 3), .ref (a1 4), .ref (a1 5), .ref (a1 6), .ref (a1 7)])), (a1 0, .inl (cA, (5, .inl (fun _ => 0)))), (a1 1, .inl (cA, (5, .inl (fun _ => 0)))), (a1 2, .inl (cA, (5, .inl (fun _ => 0)))), (a1 3, .inl (cA, (5, .inl (fun _ => 0)))), (a1 4, .inl (cA, (10, .inl (fun _ => 0)))), (a1 5, .inl (cA, (10, .inl (fun _ => 0)))), (a1 6, .inl (cA, (10, .inl (fun _ => 0)))), (a1 7, .inl (cA, (20, .inl fM9))), (q2, .inr (2, [.int 0, .int 0, .int 0, .int 0, .ref (a3 0), .ref (a3 1), .ref (a3 2), .ref (a3 3), .ref (a3 4), .ref (a3 5), .ref (a3 6), .ref (a3 7)])), (a3 0, .inl (cA, (5, .inl (fun _ => 0)))), (a3 1, .inl (cA, (5, .inl (fun _ => 0)))), (a3 2, .inl (cA, (5, .inl (fun _ => 0)))), (a3 3, .inl (cA, (5, .inl (fun _ => 0)))), (a3 4, .inl (cA, (10, .inl (fun _ => 0)))), (a3 5, .inl (cA, (10, .inl (fun _ => 0)))), (a3 6, .inl (cA, (10, .inl (fun _ => 0)))), (a3 7, .inl (cA, (20, .inl fM9))), (q4, .inl (cA, (4, .inl (fun _ => 0))))] H := hP
  have hD : va_D A [(h0, .inr (1, [.ref q0, .ref q2, .ref q4])), (q0, .inr (2, [.int 0, .int 0, .int 0, .int 0, .ref (a1 0), .ref (a1 1), .ref (a1 2), .ref (a1 3), .ref (a1 4), .ref (a1 5), .ref (a1 6), .ref (a1 7)])), (a1 0, .inl (cA, (5, .inl (fun _ => 0)))), (a1 1, .inl (cA, (5, .inl (fun _ => 0)))), (a1 2, .inl (cA, (5, .inl (fun _ => 0)))), (a1 3, .inl (cA, (5, .inl (fun _ => 0)))), (a1 4, .inl (cA, (10, .inl (fun _ => 0)))), (a1 5, .inl (cA, (10, .inl (fun _ => 0)))), (a1 6, .inl (cA, (10, .inl (fun _ => 0)))), (a1 7, .inl (cA, (20, .inl fM9))), (q2, .inr (2, [.int 0, .int 0, .int 0, .int 0, .ref (a3 0), .ref (a3 1), .ref (a3 2), .ref (a3 3), .ref (a3 4), .ref (a3 5), .ref (a3 6), .ref (a3 7)])), (a3 0, .inl (cA, (5, .inl (fun _ => 0)))), (a3 1, .inl (cA, (5, .inl (fun _ => 0)))), (a3 2, .inl (cA, (5, .inl (fun _ => 0)))), (a3 3, .inl (cA, (5, .inl (fun _ => 0)))), (a3 4, .inl (cA, (10, .inl (fun _ => 0)))), (a3 5, .inl (cA, (10, .inl (fun _ => 0)))), (a3 6, .inl (cA, (10, .inl (fun _ => 0)))), (a3 7, .inl (cA, (20, .inl fM9))), (q4, .inl (cA, (4, .inl (fun _ => 0))))] := hD
  refine W.widen (k := 19) (n := 168) (by decide) (by decide) ?_
  refine W.vret hx hb hr (fun t ht hW => ⟨⟨(fun i => ([q0, (a1 0), (a1 1), (a1 2), (a1 3), (a1 4), (a1 5), (a1 6), (a1 7), q2, (a3 0), (a3 1), (a3 2), (a3 3), (a3 4), (a3 5), (a3 6), (a3 7), q4] : List Nat).getD i 0), rfl, trivial, by rw [ht]; exact hP, hD⟩, hS.F ht⟩) hS.2.2 dX1_init_33
set_option maxHeartbeats 4000000 in
set_option maxRecDepth 100000 in
/-- LeansAgainstReason() -/
theorem c_X4_init (l : Launch) (dC : Nat → ClassId) (dI : Nat → Nat → Nat) (cA : ClassId) (h0 sz : Nat) : Met l yX4_init (.code yX4_init cX4_init 1 none :: lwg) ({ frames := 3, cells := 33, slots := 374, locals := 88 }) (va_Pc [.ref h0] (fun U => U.heap.size = sz ∧ va_P (dC, dI) vwC [(h0, .inr (3, [.null, .null, .null, .null, .int 0, .null, .int 0, .null]))] U.heap ∧ va_K (dC, dI) vwC [(cA, .int)] U ∧ va_D (fun _ => True) [(h0, .inr (3, [.null, .null, .null, .null, .int 0, .null, .int 0, .null]))])) (va_Qv (fun _ : Nat → Nat => True) (fun a t => va_P (dC, dI) vwC (cwX cA h0 a) t.heap ∧ va_D (va_A [(h0, .inr (3, [.null, .null, .null, .null, .int 0, .null, .int 0, .null]))] sz) (cwX cA h0 a)) (va_A [(h0, .inr (3, [.null, .null, .null, .null, .int 0, .null, .int 0, .null]))] sz)) 33 374 (va_A [(h0, .inr (3, [.null, .null, .null, .null, .int 0, .null, .int 0, .null]))] sz) := by
  refine Met.ofW (cc := cX4_init) (maxL := 1) (ret := none) (by decide) rfl ?_
  intro p e s m args below meth c s₁ B hml hv
  obtain ⟨rfl, hsz, hP, hK, hD0⟩ := hv
  have hx := B.exec
  have hb := B.bytes
  have hr := B.returns
  have hts0 := atoms_spec (ws := .code yX4_init cX4_init 1 none :: lwg) B.pre
  have hts : ∀ w ∈ lwg, w.before ([Value.ref h0] : List Value).toArray s = true := fun w hw => hts0 w (List.mem_cons_of_mem _ hw)
  have hown : s.vm.findClass RX4 = some m.cls := findClass_of_methodNamed B.named
  have hlocks := B.notSynchronized
  have hin : meth.name = "<init>" := (name_of_methodNamed B.named B.method).1
  subst hsz
  have hD := hD0.self (sz := s.heap.size)
  generalize hAe : va_A [(h0, .inr (3, [.null, .null, .null, .null, .int 0, .null, .int 0, .null]))] s.heap.size = A at hD ⊢
  have hA : ∀ q : Nat, s.heap.size ≤ q → A q := fun q h => by rw [← hAe]; exact Or.inr h
  have hS : va_S A s.heap s.heap [] := va_S.rf
  have hl := lv_entry ([.ref h0]) (n := 1) (Nat.le_of_ble_eq_true rfl)
  rw [lg_entry_eq]
  generalize (lg_sl ([.ref h0]) ++ List.replicate (1 - (lg_sl ([.ref h0])).length) Slot.unset).toArray = ls at hl ⊢
  have hl : lv_has ls 1 [(0, .ref h0)] := hl
  refine lv_aload_n hx hb dX4_init_0 rfl (lv_at hl 0 rfl) ?_
  refine W.objInit hx hb hown (hts _ (wAt_in (p := 1021) (w := .methodLink RX4 1 objectInit) (by decide +kernel))) (hts _ (wAt_in (p := 1022) (w := .instanceMethod objectInit) (by decide +kernel))) (hts _ (wAt_in (p := 1023) (w := .code objectInit ⟨#[0xb1]⟩ 1 none) (by decide +kernel))) rfl (by rw [hml]; exact hl.1) rfl dX4_init_1 (Nat.le_of_ble_eq_true rfl) (Nat.le_of_ble_eq_true rfl) ?_
  refine W.eq (g2 := F0 m 4 ls []) rfl ?_
  refine lv_aload_n hx hb dX4_init_4 rfl (lv_at hl 0 rfl) ?_
  refine va_new (ci := 1) (fs := [.null, .null, .null]) (C := RX1) (T := TX1) (N := 3) hx hb hts (wu_all 1 (by decide)) tyX1 tyX1_ok hown (hts _ (wAt_in (p := 1024) (w := .classLink RX4 7 RX1) (by decide +kernel))) (hts _ (wAt_in (p := 1025) (w := .instantiable RX1 3) (by decide +kernel))) (hts _ (wAt_in (p := 1002) (w := .initialized RX1) (by decide +kernel))) hK hP hD hS hA rfl (fun j hj => by rcases (show j = 0 ∨ j = 1 ∨ j = 2 by omega) with rfl | rfl | rfl <;> rfl) (show 0 + 1 ≤ 33 by decide) (show 0 + 3 ≤ 374 by decide) dX4_init_5 (fun q0 H hP hD hS => ?_)
  have hP : va_P (dC, dI) vwC [(h0, .inr (3, [.null, .null, .null, .null, .int 0, .null, .int 0, .null])), (q0, .inr (1, [.null, .null, .null]))] H := hP
  have hD : va_D A [(h0, .inr (3, [.null, .null, .null, .null, .int 0, .null, .int 0, .null])), (q0, .inr (1, [.null, .null, .null]))] := hD
  refine lv_dup hx hb dX4_init_8 rfl ?_
  have hPc := hP.sub (ws' := [(q0, .inr (1, [.null, .null, .null]))]) [1] rfl
  have hDc := hD.sub (ws' := [(q0, .inr (1, [.null, .null, .null]))]) [1] (by decide) rfl
  have hFc := va_free (wc := [(q0, .inr (1, [.null, .null, .null]))]) hD hS hA [1] rfl
  refine va_callv (va_runI (As := []) (rest := [.ref q0, .ref h0]) ⟨hx, hb, hml, hown, hts⟩ (c_X1_init l dC dI cA q0 H.size) (cwI 0 hts (gI (wAt_in (p := 1028) (w := .code yX1_init cX1_init 1 none) (by decide +kernel))) rfl rfl rfl (hts _ (wAt_in (p := 1002) (w := .initialized RX1) (by decide +kernel))) (hts _ (wAt_in (p := 1026) (w := .methodLink RX4 9 yX1_init) (by decide +kernel))) (hts _ (wAt_in (p := 1027) (w := .instanceMethod yX1_init) (by decide +kernel))) rfl (by decide +kernel) ⟨Nat.le_of_ble_eq_true rfl, Nat.le_of_ble_eq_true rfl⟩) ⟨fun a U g mk z => by obtain ⟨z0, z1, zP, zK, zD⟩ := z; exact ⟨z0, z1, zP, va_K.moved (u := U) (U := U.calling g mk a) (Vm.Alike.refl U.vm) zK, zD⟩, fun U hU hW => ⟨rfl, by rw [hU], by rw [hU]; exact hPc, va_K.moved hW.alike hK, hDc.weaken (fun _ _ _ _ => trivial)⟩⟩ rfl rfl hl.1 rfl (lv_room (Nat.le_of_ble_eq_true rfl)) dX4_init_9 ⟨(show 1 + 19 ≤ 33 by decide), (show 3 + 168 ≤ 374 by decide)⟩) hS (fun x _ h => hFc x h) hFc (fun u t H1 locs ht hvm hw hB hz1 hk1 hS => ?_)
  obtain ⟨a1, rfl⟩ : ∃ z, z = u := ⟨_, rfl⟩
  obtain ⟨hP1, hD1⟩ := hB
  rw [ht] at hP1
  obtain ⟨hP, hD⟩ := va_join (wr := [(h0, .inr (3, [.null, .null, .null, .null, .int 0, .null, .int 0, .null]))]) (w1 := cwM cA q0 a1) hP hD [1] [0] rfl rfl (by decide) (by decide) hk1 hFc hP1 hD1
  generalize H1 = H at hP hS ⊢
  have hP : va_P (dC, dI) vwC [(h0, .inr (3, [.null, .null, .null, .null, .int 0, .null, .int 0, .null])), (q0, .inr (1, [.ref (a1 0), .ref (a1 9), .ref (a1 18)])), (a1 0, .inr (2, [.int 0, .int 0, .int 0, .int 0, .ref (a1 1), .ref (a1 2), .ref (a1 3), .ref (a1 4), .ref (a1 5), .ref (a1 6), .ref (a1 7), .ref (a1 8)])), (a1 1, .inl (cA, (5, .inl (fun _ => 0)))), (a1 2, .inl (cA, (5, .inl (fun _ => 0)))), (a1 3, .inl (cA, (5, .inl (fun _ => 0)))), (a1 4, .inl (cA, (5, .inl (fun _ => 0)))), (a1 5, .inl (cA, (10, .inl (fun _ => 0)))), (a1 6, .inl (cA, (10, .inl (fun _ => 0)))), (a1 7, .inl (cA, (10, .inl (fun _ => 0)))), (a1 8, .inl (cA, (20, .inl fM9))), (a1 9, .inr (2, [.int 0, .int 0, .int 0, .int 0, .ref (a1 10), .ref (a1 11), .ref (a1 12), .ref (a1 13), .ref (a1 14), .ref (a1 15), .ref (a1 16), .ref (a1 17)])), (a1 10, .inl (cA, (5, .inl (fun _ => 0)))), (a1 11, .inl (cA, (5, .inl (fun _ => 0)))), (a1 12, .inl (cA, (5, .inl (fun _ => 0)))), (a1 13, .inl (cA, (5, .inl (fun _ => 0)))), (a1 14, .inl (cA, (10, .inl (fun _ => 0)))), (a1 15, .inl (cA, (10, .inl (fun _ => 0)))), (a1 16, .inl (cA, (10, .inl (fun _ => 0)))), (a1 17, .inl (cA, (20, .inl fM9))), (a1 18, .inl (cA, (4, .inl (fun _ => 0))))] H := hP
  have hD : va_D A [(h0, .inr (3, [.null, .null, .null, .null, .int 0, .null, .int 0, .null])), (q0, .inr (1, [.ref (a1 0), .ref (a1 9), .ref (a1 18)])), (a1 0, .inr (2, [.int 0, .int 0, .int 0, .int 0, .ref (a1 1), .ref (a1 2), .ref (a1 3), .ref (a1 4), .ref (a1 5), .ref (a1 6), .ref (a1 7), .ref (a1 8)])), (a1 1, .inl (cA, (5, .inl (fun _ => 0)))), (a1 2, .inl (cA, (5, .inl (fun _ => 0)))), (a1 3, .inl (cA, (5, .inl (fun _ => 0)))), (a1 4, .inl (cA, (5, .inl (fun _ => 0)))), (a1 5, .inl (cA, (10, .inl (fun _ => 0)))), (a1 6, .inl (cA, (10, .inl (fun _ => 0)))), (a1 7, .inl (cA, (10, .inl (fun _ => 0)))), (a1 8, .inl (cA, (20, .inl fM9))), (a1 9, .inr (2, [.int 0, .int 0, .int 0, .int 0, .ref (a1 10), .ref (a1 11), .ref (a1 12), .ref (a1 13), .ref (a1 14), .ref (a1 15), .ref (a1 16), .ref (a1 17)])), (a1 10, .inl (cA, (5, .inl (fun _ => 0)))), (a1 11, .inl (cA, (5, .inl (fun _ => 0)))), (a1 12, .inl (cA, (5, .inl (fun _ => 0)))), (a1 13, .inl (cA, (5, .inl (fun _ => 0)))), (a1 14, .inl (cA, (10, .inl (fun _ => 0)))), (a1 15, .inl (cA, (10, .inl (fun _ => 0)))), (a1 16, .inl (cA, (10, .inl (fun _ => 0)))), (a1 17, .inl (cA, (20, .inl fM9))), (a1 18, .inl (cA, (4, .inl (fun _ => 0))))] := hD
  refine va_putF (D := (dC, dI)) (ci := 3) (v := .ref q0) (ty := .object "LeansAgainstReason$Mind") (own := RX4) (ref := "LeansAgainstReason") (C := RX4) (T := TX4) (N := 8) hx hb hts (wu_all 3 (by decide)) tyX4 tyX4_ok nmX4 hown hK hP hD hS 0 rfl rfl 0 (by decide) (hts _ (wAt_in (p := 1124) (w := .fieldLink RX4 10 "LeansAgainstReason" "mind" "LLeansAgainstReason$Mind;") (by decide +kernel))) (fun _ h9 => h9) rfl hin rfl (by decide +kernel) rfl rfl (Nat.le_of_ble_eq_true rfl) dX4_init_12 (fun H locs hP hD hS => ?_)
  have hP : va_P (dC, dI) vwC [(h0, .inr (3, [.ref q0, .null, .null, .null, .int 0, .null, .int 0, .null])), (q0, .inr (1, [.ref (a1 0), .ref (a1 9), .ref (a1 18)])), (a1 0, .inr (2, [.int 0, .int 0, .int 0, .int 0, .ref (a1 1), .ref (a1 2), .ref (a1 3), .ref (a1 4), .ref (a1 5), .ref (a1 6), .ref (a1 7), .ref (a1 8)])), (a1 1, .inl (cA, (5, .inl (fun _ => 0)))), (a1 2, .inl (cA, (5, .inl (fun _ => 0)))), (a1 3, .inl (cA, (5, .inl (fun _ => 0)))), (a1 4, .inl (cA, (5, .inl (fun _ => 0)))), (a1 5, .inl (cA, (10, .inl (fun _ => 0)))), (a1 6, .inl (cA, (10, .inl (fun _ => 0)))), (a1 7, .inl (cA, (10, .inl (fun _ => 0)))), (a1 8, .inl (cA, (20, .inl fM9))), (a1 9, .inr (2, [.int 0, .int 0, .int 0, .int 0, .ref (a1 10), .ref (a1 11), .ref (a1 12), .ref (a1 13), .ref (a1 14), .ref (a1 15), .ref (a1 16), .ref (a1 17)])), (a1 10, .inl (cA, (5, .inl (fun _ => 0)))), (a1 11, .inl (cA, (5, .inl (fun _ => 0)))), (a1 12, .inl (cA, (5, .inl (fun _ => 0)))), (a1 13, .inl (cA, (5, .inl (fun _ => 0)))), (a1 14, .inl (cA, (10, .inl (fun _ => 0)))), (a1 15, .inl (cA, (10, .inl (fun _ => 0)))), (a1 16, .inl (cA, (10, .inl (fun _ => 0)))), (a1 17, .inl (cA, (20, .inl fM9))), (a1 18, .inl (cA, (4, .inl (fun _ => 0))))] H := hP
  have hD : va_D A [(h0, .inr (3, [.ref q0, .null, .null, .null, .int 0, .null, .int 0, .null])), (q0, .inr (1, [.ref (a1 0), .ref (a1 9), .ref (a1 18)])), (a1 0, .inr (2, [.int 0, .int 0, .int 0, .int 0, .ref (a1 1), .ref (a1 2), .ref (a1 3), .ref (a1 4), .ref (a1 5), .ref (a1 6), .ref (a1 7), .ref (a1 8)])), (a1 1, .inl (cA, (5, .inl (fun _ => 0)))), (a1 2, .inl (cA, (5, .inl (fun _ => 0)))), (a1 3, .inl (cA, (5, .inl (fun _ => 0)))), (a1 4, .inl (cA, (5, .inl (fun _ => 0)))), (a1 5, .inl (cA, (10, .inl (fun _ => 0)))), (a1 6, .inl (cA, (10, .inl (fun _ => 0)))), (a1 7, .inl (cA, (10, .inl (fun _ => 0)))), (a1 8, .inl (cA, (20, .inl fM9))), (a1 9, .inr (2, [.int 0, .int 0, .int 0, .int 0, .ref (a1 10), .ref (a1 11), .ref (a1 12), .ref (a1 13), .ref (a1 14), .ref (a1 15), .ref (a1 16), .ref (a1 17)])), (a1 10, .inl (cA, (5, .inl (fun _ => 0)))), (a1 11, .inl (cA, (5, .inl (fun _ => 0)))), (a1 12, .inl (cA, (5, .inl (fun _ => 0)))), (a1 13, .inl (cA, (5, .inl (fun _ => 0)))), (a1 14, .inl (cA, (10, .inl (fun _ => 0)))), (a1 15, .inl (cA, (10, .inl (fun _ => 0)))), (a1 16, .inl (cA, (10, .inl (fun _ => 0)))), (a1 17, .inl (cA, (20, .inl fM9))), (a1 18, .inl (cA, (4, .inl (fun _ => 0))))] := hD
  refine lv_aload_n hx hb dX4_init_15 rfl (lv_at hl 0 rfl) ?_
  refine lv_aload_n hx hb dX4_init_16 rfl (lv_at hl 0 rfl) ?_
  refine va_get (D := (dC, dI)) (ci := 3) (v := .ref q0) (own := RX4) (ref := "LeansAgainstReason") (C := RX4) (T := TX4) (N := 8) hx hb hts (wu_all 3 (by decide)) hown hK hP 0 rfl rfl 0 (by decide) (hts _ (wAt_in (p := 1124) (w := .fieldLink RX4 10 "LeansAgainstReason" "mind" "LLeansAgainstReason$Mind;") (by decide +kernel))) (fun _ h9 => h9) rfl dX4_init_17 ?_
  refine va_get (D := (dC, dI)) (ci := 1) (v := .ref (a1 0)) (own := RX4) (ref := "LeansAgainstReason$Mind") (C := RX1) (T := TX1) (N := 3) hx hb hts (wu_all 1 (by decide)) hown hK hP 1 rfl rfl 0 (by decide) (hts _ (wAt_in (p := 1097) (w := .fieldLink RX4 16 "LeansAgainstReason$Mind" "now" "LLeansAgainstReason$Rack;") (by decide +kernel))) (fun _ h9 => h9) rfl dX4_init_20 ?_
  refine va_putF (D := (dC, dI)) (ci := 3) (v := .ref (a1 0)) (ty := .object "LeansAgainstReason$Rack") (own := RX4) (ref := "LeansAgainstReason") (C := RX4) (T := TX4) (N := 8) hx hb hts (wu_all 3 (by decide)) tyX4 tyX4_ok nmX4 hown hK hP hD hS 0 rfl rfl 1 (by decide) (hts _ (wAt_in (p := 1125) (w := .fieldLink RX4 20 "LeansAgainstReason" "now" "LLeansAgainstReason$Rack;") (by decide +kernel))) (fun _ h9 => h9) rfl hin rfl (by decide +kernel) rfl rfl (Nat.le_of_ble_eq_true rfl) dX4_init_23 (fun H locs hP hD hS => ?_)
  have hP : va_P (dC, dI) vwC [(h0, .inr (3, [.ref q0, .ref (a1 0), .null, .null, .int 0, .null, .int 0, .null])), (q0, .inr (1, [.ref (a1 0), .ref (a1 9), .ref (a1 18)])), (a1 0, .inr (2, [.int 0, .int 0, .int 0, .int 0, .ref (a1 1), .ref (a1 2), .ref (a1 3), .ref (a1 4), .ref (a1 5), .ref (a1 6), .ref (a1 7), .ref (a1 8)])), (a1 1, .inl (cA, (5, .inl (fun _ => 0)))), (a1 2, .inl (cA, (5, .inl (fun _ => 0)))), (a1 3, .inl (cA, (5, .inl (fun _ => 0)))), (a1 4, .inl (cA, (5, .inl (fun _ => 0)))), (a1 5, .inl (cA, (10, .inl (fun _ => 0)))), (a1 6, .inl (cA, (10, .inl (fun _ => 0)))), (a1 7, .inl (cA, (10, .inl (fun _ => 0)))), (a1 8, .inl (cA, (20, .inl fM9))), (a1 9, .inr (2, [.int 0, .int 0, .int 0, .int 0, .ref (a1 10), .ref (a1 11), .ref (a1 12), .ref (a1 13), .ref (a1 14), .ref (a1 15), .ref (a1 16), .ref (a1 17)])), (a1 10, .inl (cA, (5, .inl (fun _ => 0)))), (a1 11, .inl (cA, (5, .inl (fun _ => 0)))), (a1 12, .inl (cA, (5, .inl (fun _ => 0)))), (a1 13, .inl (cA, (5, .inl (fun _ => 0)))), (a1 14, .inl (cA, (10, .inl (fun _ => 0)))), (a1 15, .inl (cA, (10, .inl (fun _ => 0)))), (a1 16, .inl (cA, (10, .inl (fun _ => 0)))), (a1 17, .inl (cA, (20, .inl fM9))), (a1 18, .inl (cA, (4, .inl (fun _ => 0))))] H := hP
  have hD : va_D A [(h0, .inr (3, [.ref q0, .ref (a1 0), .null, .null, .int 0, .null, .int 0, .null])), (q0, .inr (1, [.ref (a1 0), .ref (a1 9), .ref (a1 18)])), (a1 0, .inr (2, [.int 0, .int 0, .int 0, .int 0, .ref (a1 1), .ref (a1 2), .ref (a1 3), .ref (a1 4), .ref (a1 5), .ref (a1 6), .ref (a1 7), .ref (a1 8)])), (a1 1, .inl (cA, (5, .inl (fun _ => 0)))), (a1 2, .inl (cA, (5, .inl (fun _ => 0)))), (a1 3, .inl (cA, (5, .inl (fun _ => 0)))), (a1 4, .inl (cA, (5, .inl (fun _ => 0)))), (a1 5, .inl (cA, (10, .inl (fun _ => 0)))), (a1 6, .inl (cA, (10, .inl (fun _ => 0)))), (a1 7, .inl (cA, (10, .inl (fun _ => 0)))), (a1 8, .inl (cA, (20, .inl fM9))), (a1 9, .inr (2, [.int 0, .int 0, .int 0, .int 0, .ref (a1 10), .ref (a1 11), .ref (a1 12), .ref (a1 13), .ref (a1 14), .ref (a1 15), .ref (a1 16), .ref (a1 17)])), (a1 10, .inl (cA, (5, .inl (fun _ => 0)))), (a1 11, .inl (cA, (5, .inl (fun _ => 0)))), (a1 12, .inl (cA, (5, .inl (fun _ => 0)))), (a1 13, .inl (cA, (5, .inl (fun _ => 0)))), (a1 14, .inl (cA, (10, .inl (fun _ => 0)))), (a1 15, .inl (cA, (10, .inl (fun _ => 0)))), (a1 16, .inl (cA, (10, .inl (fun _ => 0)))), (a1 17, .inl (cA, (20, .inl fM9))), (a1 18, .inl (cA, (4, .inl (fun _ => 0))))] := hD
  refine lv_aload_n hx hb dX4_init_26 rfl (lv_at hl 0 rfl) ?_
  refine va_new (ci := 0) (fs := [.null, .int 0]) (C := RX0) (T := TX0) (N := 2) hx hb hts (wu_all 0 (by decide)) tyX0 tyX0_ok hown (hts _ (wAt_in (p := 1107) (w := .classLink RX4 21 RX0) (by decide +kernel))) (hts _ (wAt_in (p := 1108) (w := .instantiable RX0 2) (by decide +kernel))) (hts _ (wAt_in (p := 1005) (w := .initialized RX0) (by decide +kernel))) hK hP hD hS hA rfl (fun j hj => by rcases (show j = 0 ∨ j = 1 by omega) with rfl | rfl <;> rfl) (show 20 + 1 ≤ 33 by decide) (show 171 + 2 ≤ 374 by decide) dX4_init_27 (fun q2 H hP hD hS => ?_)
  have hP : va_P (dC, dI) vwC [(h0, .inr (3, [.ref q0, .ref (a1 0), .null, .null, .int 0, .null, .int 0, .null])), (q0, .inr (1, [.ref (a1 0), .ref (a1 9), .ref (a1 18)])), (a1 0, .inr (2, [.int 0, .int 0, .int 0, .int 0, .ref (a1 1), .ref (a1 2), .ref (a1 3), .ref (a1 4), .ref (a1 5), .ref (a1 6), .ref (a1 7), .ref (a1 8)])), (a1 1, .inl (cA, (5, .inl (fun _ => 0)))), (a1 2, .inl (cA, (5, .inl (fun _ => 0)))), (a1 3, .inl (cA, (5, .inl (fun _ => 0)))), (a1 4, .inl (cA, (5, .inl (fun _ => 0)))), (a1 5, .inl (cA, (10, .inl (fun _ => 0)))), (a1 6, .inl (cA, (10, .inl (fun _ => 0)))), (a1 7, .inl (cA, (10, .inl (fun _ => 0)))), (a1 8, .inl (cA, (20, .inl fM9))), (a1 9, .inr (2, [.int 0, .int 0, .int 0, .int 0, .ref (a1 10), .ref (a1 11), .ref (a1 12), .ref (a1 13), .ref (a1 14), .ref (a1 15), .ref (a1 16), .ref (a1 17)])), (a1 10, .inl (cA, (5, .inl (fun _ => 0)))), (a1 11, .inl (cA, (5, .inl (fun _ => 0)))), (a1 12, .inl (cA, (5, .inl (fun _ => 0)))), (a1 13, .inl (cA, (5, .inl (fun _ => 0)))), (a1 14, .inl (cA, (10, .inl (fun _ => 0)))), (a1 15, .inl (cA, (10, .inl (fun _ => 0)))), (a1 16, .inl (cA, (10, .inl (fun _ => 0)))), (a1 17, .inl (cA, (20, .inl fM9))), (a1 18, .inl (cA, (4, .inl (fun _ => 0)))), (q2, .inr (0, [.null, .int 0]))] H := hP
  have hD : va_D A [(h0, .inr (3, [.ref q0, .ref (a1 0), .null, .null, .int 0, .null, .int 0, .null])), (q0, .inr (1, [.ref (a1 0), .ref (a1 9), .ref (a1 18)])), (a1 0, .inr (2, [.int 0, .int 0, .int 0, .int 0, .ref (a1 1), .ref (a1 2), .ref (a1 3), .ref (a1 4), .ref (a1 5), .ref (a1 6), .ref (a1 7), .ref (a1 8)])), (a1 1, .inl (cA, (5, .inl (fun _ => 0)))), (a1 2, .inl (cA, (5, .inl (fun _ => 0)))), (a1 3, .inl (cA, (5, .inl (fun _ => 0)))), (a1 4, .inl (cA, (5, .inl (fun _ => 0)))), (a1 5, .inl (cA, (10, .inl (fun _ => 0)))), (a1 6, .inl (cA, (10, .inl (fun _ => 0)))), (a1 7, .inl (cA, (10, .inl (fun _ => 0)))), (a1 8, .inl (cA, (20, .inl fM9))), (a1 9, .inr (2, [.int 0, .int 0, .int 0, .int 0, .ref (a1 10), .ref (a1 11), .ref (a1 12), .ref (a1 13), .ref (a1 14), .ref (a1 15), .ref (a1 16), .ref (a1 17)])), (a1 10, .inl (cA, (5, .inl (fun _ => 0)))), (a1 11, .inl (cA, (5, .inl (fun _ => 0)))), (a1 12, .inl (cA, (5, .inl (fun _ => 0)))), (a1 13, .inl (cA, (5, .inl (fun _ => 0)))), (a1 14, .inl (cA, (10, .inl (fun _ => 0)))), (a1 15, .inl (cA, (10, .inl (fun _ => 0)))), (a1 16, .inl (cA, (10, .inl (fun _ => 0)))), (a1 17, .inl (cA, (20, .inl fM9))), (a1 18, .inl (cA, (4, .inl (fun _ => 0)))), (q2, .inr (0, [.null, .int 0]))] := hD
  refine lv_dup hx hb dX4_init_30 rfl ?_
  have hPc := hP.sub (ws' := [(q2, .inr (0, [.null, .int 0]))]) [21] rfl
  have hDc := hD.sub (ws' := [(q2, .inr (0, [.null, .int 0]))]) [21] (by decide) rfl
  have hFc := va_free (wc := [(q2, .inr (0, [.null, .int 0]))]) hD hS hA [21] rfl
  refine va_callv (va_runI (As := []) (rest := [.ref q2, .ref h0]) ⟨hx, hb, hml, hown, hts⟩ (c_X0_init l dC dI cA q2 H.size) (cwI 0 hts (gI (wAt_in (p := 1111) (w := .code yX0_init cX0_init 1 none) (by decide +kernel))) rfl rfl rfl (hts _ (wAt_in (p := 1005) (w := .initialized RX0) (by decide +kernel))) (hts _ (wAt_in (p := 1109) (w := .methodLink RX4 23 yX0_init) (by decide +kernel))) (hts _ (wAt_in (p := 1110) (w := .instanceMethod yX0_init) (by decide +kernel))) rfl (by decide +kernel) ⟨Nat.le_of_ble_eq_true rfl, Nat.le_of_ble_eq_true rfl⟩) ⟨fun a U g mk z => by obtain ⟨z0, z1, zP, zK, zD⟩ := z; exact ⟨z0, z1, zP, va_K.moved (u := U) (U := U.calling g mk a) (Vm.Alike.refl U.vm) zK, zD⟩, fun U hU hW => ⟨rfl, by rw [hU], by rw [hU]; exact hPc, va_K.moved hW.alike hK, hDc.weaken (fun _ _ _ _ => trivial)⟩⟩ rfl rfl hl.1 rfl (lv_room (Nat.le_of_ble_eq_true rfl)) dX4_init_31 ⟨(show 21 + 1 ≤ 33 by decide), (show 173 + 96 ≤ 374 by decide)⟩) hS (fun x _ h => hFc x h) hFc (fun u t H1 locs ht hvm hw hB hz1 hk1 hS => ?_)
  obtain ⟨a3, rfl⟩ : ∃ z, z = u := ⟨_, rfl⟩
  obtain ⟨hP1, hD1⟩ := hB
  rw [ht] at hP1
  obtain ⟨hP, hD⟩ := va_join (wr := [(h0, .inr (3, [.ref q0, .ref (a1 0), .null, .null, .int 0, .null, .int 0, .null])), (q0, .inr (1, [.ref (a1 0), .ref (a1 9), .ref (a1 18)])), (a1 0, .inr (2, [.int 0, .int 0, .int 0, .int 0, .ref (a1 1), .ref (a1 2), .ref (a1 3), .ref (a1 4), .ref (a1 5), .ref (a1 6), .ref (a1 7), .ref (a1 8)])), (a1 1, .inl (cA, (5, .inl (fun _ => 0)))), (a1 2, .inl (cA, (5, .inl (fun _ => 0)))), (a1 3, .inl (cA, (5, .inl (fun _ => 0)))), (a1 4, .inl (cA, (5, .inl (fun _ => 0)))), (a1 5, .inl (cA, (10, .inl (fun _ => 0)))), (a1 6, .inl (cA, (10, .inl (fun _ => 0)))), (a1 7, .inl (cA, (10, .inl (fun _ => 0)))), (a1 8, .inl (cA, (20, .inl fM9))), (a1 9, .inr (2, [.int 0, .int 0, .int 0, .int 0, .ref (a1 10), .ref (a1 11), .ref (a1 12), .ref (a1 13), .ref (a1 14), .ref (a1 15), .ref (a1 16), .ref (a1 17)])), (a1 10, .inl (cA, (5, .inl (fun _ => 0)))), (a1 11, .inl (cA, (5, .inl (fun _ => 0)))), (a1 12, .inl (cA, (5, .inl (fun _ => 0)))), (a1 13, .inl (cA, (5, .inl (fun _ => 0)))), (a1 14, .inl (cA, (10, .inl (fun _ => 0)))), (a1 15, .inl (cA, (10, .inl (fun _ => 0)))), (a1 16, .inl (cA, (10, .inl (fun _ => 0)))), (a1 17, .inl (cA, (20, .inl fM9))), (a1 18, .inl (cA, (4, .inl (fun _ => 0))))]) (w1 := cwL cA q2 a3) hP hD [21] [0, 1, 2, 3, 4, 5, 6, 7, 8, 9, 10, 11, 12, 13, 14, 15, 16, 17, 18, 19, 20] rfl rfl (by decide) (by decide) hk1 hFc hP1 hD1
  generalize H1 = H at hP hS ⊢
  have hP : va_P (dC, dI) vwC [(h0, .inr (3, [.ref q0, .ref (a1 0), .null, .null, .int 0, .null, .int 0, .null])), (q0, .inr (1, [.ref (a1 0), .ref (a1 9), .ref (a1 18)])), (a1 0, .inr (2, [.int 0, .int 0, .int 0, .int 0, .ref (a1 1), .ref (a1 2), .ref (a1 3), .ref (a1 4), .ref (a1 5), .ref (a1 6), .ref (a1 7), .ref (a1 8)])), (a1 1, .inl (cA, (5, .inl (fun _ => 0)))), (a1 2, .inl (cA, (5, .inl (fun _ => 0)))), (a1 3, .inl (cA, (5, .inl (fun _ => 0)))), (a1 4, .inl (cA, (5, .inl (fun _ => 0)))), (a1 5, .inl (cA, (10, .inl (fun _ => 0)))), (a1 6, .inl (cA, (10, .inl (fun _ => 0)))), (a1 7, .inl (cA, (10, .inl (fun _ => 0)))), (a1 8, .inl (cA, (20, .inl fM9))), (a1 9, .inr (2, [.int 0, .int 0, .int 0, .int 0, .ref (a1 10), .ref (a1 11), .ref (a1 12), .ref (a1 13), .ref (a1 14), .ref (a1 15), .ref (a1 16), .ref (a1 17)])), (a1 10, .inl (cA, (5, .inl (fun _ => 0)))), (a1 11, .inl (cA, (5, .inl (fun _ => 0)))), (a1 12, .inl (cA, (5, .inl (fun _ => 0)))), (a1 13, .inl (cA, (5, .inl (fun _ => 0)))), (a1 14, .inl (cA, (10, .inl (fun _ => 0)))), (a1 15, .inl (cA, (10, .inl (fun _ => 0)))), (a1 16, .inl (cA, (10, .inl (fun _ => 0)))), (a1 17, .inl (cA, (20, .inl fM9))), (a1 18, .inl (cA, (4, .inl (fun _ => 0)))), (q2, .inr (0, [.ref (a3 0), .int 0])), (a3 0, .inl (cA, (96, .inl (fun _ => 0))))] H := hP
  have hD : va_D A [(h0, .inr (3, [.ref q0, .ref (a1 0), .null, .null, .int 0, .null, .int 0, .null])), (q0, .inr (1, [.ref (a1 0), .ref (a1 9), .ref (a1 18)])), (a1 0, .inr (2, [.int 0, .int 0, .int 0, .int 0, .ref (a1 1), .ref (a1 2), .ref (a1 3), .ref (a1 4), .ref (a1 5), .ref (a1 6), .ref (a1 7), .ref (a1 8)])), (a1 1, .inl (cA, (5, .inl (fun _ => 0)))), (a1 2, .inl (cA, (5, .inl (fun _ => 0)))), (a1 3, .inl (cA, (5, .inl (fun _ => 0)))), (a1 4, .inl (cA, (5, .inl (fun _ => 0)))), (a1 5, .inl (cA, (10, .inl (fun _ => 0)))), (a1 6, .inl (cA, (10, .inl (fun _ => 0)))), (a1 7, .inl (cA, (10, .inl (fun _ => 0)))), (a1 8, .inl (cA, (20, .inl fM9))), (a1 9, .inr (2, [.int 0, .int 0, .int 0, .int 0, .ref (a1 10), .ref (a1 11), .ref (a1 12), .ref (a1 13), .ref (a1 14), .ref (a1 15), .ref (a1 16), .ref (a1 17)])), (a1 10, .inl (cA, (5, .inl (fun _ => 0)))), (a1 11, .inl (cA, (5, .inl (fun _ => 0)))), (a1 12, .inl (cA, (5, .inl (fun _ => 0)))), (a1 13, .inl (cA, (5, .inl (fun _ => 0)))), (a1 14, .inl (cA, (10, .inl (fun _ => 0)))), (a1 15, .inl (cA, (10, .inl (fun _ => 0)))), (a1 16, .inl (cA, (10, .inl (fun _ => 0)))), (a1 17, .inl (cA, (20, .inl fM9))), (a1 18, .inl (cA, (4, .inl (fun _ => 0)))), (q2, .inr (0, [.ref (a3 0), .int 0])), (a3 0, .inl (cA, (96, .inl (fun _ => 0))))] := hD
  refine va_putF (D := (dC, dI)) (ci := 3) (v := .ref q2) (ty := .object "LeansAgainstReason$Letters") (own := RX4) (ref := "LeansAgainstReason") (C := RX4) (T := TX4) (N := 8) hx hb hts (wu_all 3 (by decide)) tyX4 tyX4_ok nmX4 hown hK hP hD hS 0 rfl rfl 2 (by decide) (hts _ (wAt_in (p := 1126) (w := .fieldLink RX4 24 "LeansAgainstReason" "letters" "LLeansAgainstReason$Letters;") (by decide +kernel))) (fun _ h9 => h9) rfl hin rfl (by decide +kernel) rfl rfl (Nat.le_of_ble_eq_true rfl) dX4_init_34 (fun H locs hP hD hS => ?_)
  have hP : va_P (dC, dI) vwC [(h0, .inr (3, [.ref q0, .ref (a1 0), .ref q2, .null, .int 0, .null, .int 0, .null])), (q0, .inr (1, [.ref (a1 0), .ref (a1 9), .ref (a1 18)])), (a1 0, .inr (2, [.int 0, .int 0, .int 0, .int 0, .ref (a1 1), .ref (a1 2), .ref (a1 3), .ref (a1 4), .ref (a1 5), .ref (a1 6), .ref (a1 7), .ref (a1 8)])), (a1 1, .inl (cA, (5, .inl (fun _ => 0)))), (a1 2, .inl (cA, (5, .inl (fun _ => 0)))), (a1 3, .inl (cA, (5, .inl (fun _ => 0)))), (a1 4, .inl (cA, (5, .inl (fun _ => 0)))), (a1 5, .inl (cA, (10, .inl (fun _ => 0)))), (a1 6, .inl (cA, (10, .inl (fun _ => 0)))), (a1 7, .inl (cA, (10, .inl (fun _ => 0)))), (a1 8, .inl (cA, (20, .inl fM9))), (a1 9, .inr (2, [.int 0, .int 0, .int 0, .int 0, .ref (a1 10), .ref (a1 11), .ref (a1 12), .ref (a1 13), .ref (a1 14), .ref (a1 15), .ref (a1 16), .ref (a1 17)])), (a1 10, .inl (cA, (5, .inl (fun _ => 0)))), (a1 11, .inl (cA, (5, .inl (fun _ => 0)))), (a1 12, .inl (cA, (5, .inl (fun _ => 0)))), (a1 13, .inl (cA, (5, .inl (fun _ => 0)))), (a1 14, .inl (cA, (10, .inl (fun _ => 0)))), (a1 15, .inl (cA, (10, .inl (fun _ => 0)))), (a1 16, .inl (cA, (10, .inl (fun _ => 0)))), (a1 17, .inl (cA, (20, .inl fM9))), (a1 18, .inl (cA, (4, .inl (fun _ => 0)))), (q2, .inr (0, [.ref (a3 0), .int 0])), (a3 0, .inl (cA, (96, .inl (fun _ => 0))))] H := hP
  have hD : va_D A [(h0, .inr (3, [.ref q0, .ref (a1 0), .ref q2, .null, .int 0, .null, .int 0, .null])), (q0, .inr (1, [.ref (a1 0), .ref (a1 9), .ref (a1 18)])), (a1 0, .inr (2, [.int 0, .int 0, .int 0, .int 0, .ref (a1 1), .ref (a1 2), .ref (a1 3), .ref (a1 4), .ref (a1 5), .ref (a1 6), .ref (a1 7), .ref (a1 8)])), (a1 1, .inl (cA, (5, .inl (fun _ => 0)))), (a1 2, .inl (cA, (5, .inl (fun _ => 0)))), (a1 3, .inl (cA, (5, .inl (fun _ => 0)))), (a1 4, .inl (cA, (5, .inl (fun _ => 0)))), (a1 5, .inl (cA, (10, .inl (fun _ => 0)))), (a1 6, .inl (cA, (10, .inl (fun _ => 0)))), (a1 7, .inl (cA, (10, .inl (fun _ => 0)))), (a1 8, .inl (cA, (20, .inl fM9))), (a1 9, .inr (2, [.int 0, .int 0, .int 0, .int 0, .ref (a1 10), .ref (a1 11), .ref (a1 12), .ref (a1 13), .ref (a1 14), .ref (a1 15), .ref (a1 16), .ref (a1 17)])), (a1 10, .inl (cA, (5, .inl (fun _ => 0)))), (a1 11, .inl (cA, (5, .inl (fun _ => 0)))), (a1 12, .inl (cA, (5, .inl (fun _ => 0)))), (a1 13, .inl (cA, (5, .inl (fun _ => 0)))), (a1 14, .inl (cA, (10, .inl (fun _ => 0)))), (a1 15, .inl (cA, (10, .inl (fun _ => 0)))), (a1 16, .inl (cA, (10, .inl (fun _ => 0)))), (a1 17, .inl (cA, (20, .inl fM9))), (a1 18, .inl (cA, (4, .inl (fun _ => 0)))), (q2, .inr (0, [.ref (a3 0), .int 0])), (a3 0, .inl (cA, (96, .inl (fun _ => 0))))] := hD
  refine lv_aload_n hx hb dX4_init_37 rfl (lv_at hl 0 rfl) ?_
  refine va_new (ci := 2) (fs := [.int 0, .int 0, .int 0, .int 0, .null, .null, .null, .null, .null, .null, .null, .null]) (C := RX2) (T := TX2) (N := 12) hx hb hts (wu_all 2 (by decide)) tyX2 tyX2_ok hown (hts _ (wAt_in (p := 1122) (w := .classLink RX4 28 RX2) (by decide +kernel))) (hts _ (wAt_in (p := 1031) (w := .instantiable RX2 12) (by decide +kernel))) (hts _ (wAt_in (p := 1003) (w := .initialized RX2) (by decide +kernel))) hK hP hD hS hA rfl (fun j hj => by rcases (show j = 0 ∨ j = 1 ∨ j = 2 ∨ j = 3 ∨ j = 4 ∨ j = 5 ∨ j = 6 ∨ j = 7 ∨ j = 8 ∨ j = 9 ∨ j = 10 ∨ j = 11 by omega) with rfl | rfl | rfl | rfl | rfl | rfl | rfl | rfl | rfl | rfl | rfl | rfl <;> rfl) (show 22 + 1 ≤ 33 by decide) (show 269 + 12 ≤ 374 by decide) dX4_init_38 (fun q4 H hP hD hS => ?_)
  have hP : va_P (dC, dI) vwC [(h0, .inr (3, [.ref q0, .ref (a1 0), .ref q2, .null, .int 0, .null, .int 0, .null])), (q0, .inr (1, [.ref (a1 0), .ref (a1 9), .ref (a1 18)])), (a1 0, .inr (2, [.int 0, .int 0, .int 0, .int 0, .ref (a1 1), .ref (a1 2), .ref (a1 3), .ref (a1 4), .ref (a1 5), .ref (a1 6), .ref (a1 7), .ref (a1 8)])), (a1 1, .inl (cA, (5, .inl (fun _ => 0)))), (a1 2, .inl (cA, (5, .inl (fun _ => 0)))), (a1 3, .inl (cA, (5, .inl (fun _ => 0)))), (a1 4, .inl (cA, (5, .inl (fun _ => 0)))), (a1 5, .inl (cA, (10, .inl (fun _ => 0)))), (a1 6, .inl (cA, (10, .inl (fun _ => 0)))), (a1 7, .inl (cA, (10, .inl (fun _ => 0)))), (a1 8, .inl (cA, (20, .inl fM9))), (a1 9, .inr (2, [.int 0, .int 0, .int 0, .int 0, .ref (a1 10), .ref (a1 11), .ref (a1 12), .ref (a1 13), .ref (a1 14), .ref (a1 15), .ref (a1 16), .ref (a1 17)])), (a1 10, .inl (cA, (5, .inl (fun _ => 0)))), (a1 11, .inl (cA, (5, .inl (fun _ => 0)))), (a1 12, .inl (cA, (5, .inl (fun _ => 0)))), (a1 13, .inl (cA, (5, .inl (fun _ => 0)))), (a1 14, .inl (cA, (10, .inl (fun _ => 0)))), (a1 15, .inl (cA, (10, .inl (fun _ => 0)))), (a1 16, .inl (cA, (10, .inl (fun _ => 0)))), (a1 17, .inl (cA, (20, .inl fM9))), (a1 18, .inl (cA, (4, .inl (fun _ => 0)))), (q2, .inr (0, [.ref (a3 0), .int 0])), (a3 0, .inl (cA, (96, .inl (fun _ => 0)))), (q4, .inr (2, [.int 0, .int 0, .int 0, .int 0, .null, .null, .null, .null, .null, .null, .null, .null]))] H := hP
  have hD : va_D A [(h0, .inr (3, [.ref q0, .ref (a1 0), .ref q2, .null, .int 0, .null, .int 0, .null])), (q0, .inr (1, [.ref (a1 0), .ref (a1 9), .ref (a1 18)])), (a1 0, .inr (2, [.int 0, .int 0, .int 0, .int 0, .ref (a1 1), .ref (a1 2), .ref (a1 3), .ref (a1 4), .ref (a1 5), .ref (a1 6), .ref (a1 7), .ref (a1 8)])), (a1 1, .inl (cA, (5, .inl (fun _ => 0)))), (a1 2, .inl (cA, (5, .inl (fun _ => 0)))), (a1 3, .inl (cA, (5, .inl (fun _ => 0)))), (a1 4, .inl (cA, (5, .inl (fun _ => 0)))), (a1 5, .inl (cA, (10, .inl (fun _ => 0)))), (a1 6, .inl (cA, (10, .inl (fun _ => 0)))), (a1 7, .inl (cA, (10, .inl (fun _ => 0)))), (a1 8, .inl (cA, (20, .inl fM9))), (a1 9, .inr (2, [.int 0, .int 0, .int 0, .int 0, .ref (a1 10), .ref (a1 11), .ref (a1 12), .ref (a1 13), .ref (a1 14), .ref (a1 15), .ref (a1 16), .ref (a1 17)])), (a1 10, .inl (cA, (5, .inl (fun _ => 0)))), (a1 11, .inl (cA, (5, .inl (fun _ => 0)))), (a1 12, .inl (cA, (5, .inl (fun _ => 0)))), (a1 13, .inl (cA, (5, .inl (fun _ => 0)))), (a1 14, .inl (cA, (10, .inl (fun _ => 0)))), (a1 15, .inl (cA, (10, .inl (fun _ => 0)))), (a1 16, .inl (cA, (10, .inl (fun _ => 0)))), (a1 17, .inl (cA, (20, .inl fM9))), (a1 18, .inl (cA, (4, .inl (fun _ => 0)))), (q2, .inr (0, [.ref (a3 0), .int 0])), (a3 0, .inl (cA, (96, .inl (fun _ => 0)))), (q4, .inr (2, [.int 0, .int 0, .int 0, .int 0, .null, .null, .null, .null, .null, .null, .null, .null]))] := hD
  refine lv_dup hx hb dX4_init_41 rfl ?_
  have hPc := hP.sub (ws' := [(q4, .inr (2, [.int 0, .int 0, .int 0, .int 0, .null, .null, .null, .null, .null, .null, .null, .null]))]) [23] rfl
  have hDc := hD.sub (ws' := [(q4, .inr (2, [.int 0, .int 0, .int 0, .int 0, .null, .null, .null, .null, .null, .null, .null, .null]))]) [23] (by decide) rfl
  have hFc := va_free (wc := [(q4, .inr (2, [.int 0, .int 0, .int 0, .int 0, .null, .null, .null, .null, .null, .null, .null, .null]))]) hD hS hA [23] rfl
  refine va_callv (va_runI (As := []) (rest := [.ref q4, .ref h0]) ⟨hx, hb, hml, hown, hts⟩ (c_X2_init l dC dI cA q4 H.size) (cwI 0 hts (gI (wAt_in (p := 1034) (w := .code yX2_init cX2_init 1 none) (by decide +kernel))) rfl rfl rfl (hts _ (wAt_in (p := 1003) (w := .initialized RX2) (by decide +kernel))) (hts _ (wAt_in (p := 1123) (w := .methodLink RX4 30 yX2_init) (by decide +kernel))) (hts _ (wAt_in (p := 1033) (w := .instanceMethod yX2_init) (by decide +kernel))) rfl (by decide +kernel) ⟨Nat.le_of_ble_eq_true rfl, Nat.le_of_ble_eq_true rfl⟩) ⟨fun a U g mk z => by obtain ⟨z0, z1, zP, zK, zD⟩ := z; exact ⟨z0, z1, zP, va_K.moved (u := U) (U := U.calling g mk a) (Vm.Alike.refl U.vm) zK, zD⟩, fun U hU hW => ⟨rfl, by rw [hU], by rw [hU]; exact hPc, va_K.moved hW.alike hK, hDc.weaken (fun _ _ _ _ => trivial)⟩⟩ rfl rfl hl.1 rfl (lv_room (Nat.le_of_ble_eq_true rfl)) dX4_init_42 ⟨(show 23 + 8 ≤ 33 by decide), (show 281 + 70 ≤ 374 by decide)⟩) hS (fun x _ h => hFc x h) hFc (fun u t H1 locs ht hvm hw hB hz1 hk1 hS => ?_)
  obtain ⟨a5, rfl⟩ : ∃ z, z = u := ⟨_, rfl⟩
  obtain ⟨hP1, hD1⟩ := hB
  rw [ht] at hP1
  obtain ⟨hP, hD⟩ := va_join (wr := [(h0, .inr (3, [.ref q0, .ref (a1 0), .ref q2, .null, .int 0, .null, .int 0, .null])), (q0, .inr (1, [.ref (a1 0), .ref (a1 9), .ref (a1 18)])), (a1 0, .inr (2, [.int 0, .int 0, .int 0, .int 0, .ref (a1 1), .ref (a1 2), .ref (a1 3), .ref (a1 4), .ref (a1 5), .ref (a1 6), .ref (a1 7), .ref (a1 8)])), (a1 1, .inl (cA, (5, .inl (fun _ => 0)))), (a1 2, .inl (cA, (5, .inl (fun _ => 0)))), (a1 3, .inl (cA, (5, .inl (fun _ => 0)))), (a1 4, .inl (cA, (5, .inl (fun _ => 0)))), (a1 5, .inl (cA, (10, .inl (fun _ => 0)))), (a1 6, .inl (cA, (10, .inl (fun _ => 0)))), (a1 7, .inl (cA, (10, .inl (fun _ => 0)))), (a1 8, .inl (cA, (20, .inl fM9))), (a1 9, .inr (2, [.int 0, .int 0, .int 0, .int 0, .ref (a1 10), .ref (a1 11), .ref (a1 12), .ref (a1 13), .ref (a1 14), .ref (a1 15), .ref (a1 16), .ref (a1 17)])), (a1 10, .inl (cA, (5, .inl (fun _ => 0)))), (a1 11, .inl (cA, (5, .inl (fun _ => 0)))), (a1 12, .inl (cA, (5, .inl (fun _ => 0)))), (a1 13, .inl (cA, (5, .inl (fun _ => 0)))), (a1 14, .inl (cA, (10, .inl (fun _ => 0)))), (a1 15, .inl (cA, (10, .inl (fun _ => 0)))), (a1 16, .inl (cA, (10, .inl (fun _ => 0)))), (a1 17, .inl (cA, (20, .inl fM9))), (a1 18, .inl (cA, (4, .inl (fun _ => 0)))), (q2, .inr (0, [.ref (a3 0), .int 0])), (a3 0, .inl (cA, (96, .inl (fun _ => 0))))]) (w1 := cwR cA q4 a5) hP hD [23] [0, 1, 2, 3, 4, 5, 6, 7, 8, 9, 10, 11, 12, 13, 14, 15, 16, 17, 18, 19, 20, 21, 22] rfl rfl (by decide) (by decide) hk1 hFc hP1 hD1
  generalize H1 = H at hP hS ⊢
  have hP : va_P (dC, dI) vwC [(h0, .inr (3, [.ref q0, .ref (a1 0), .ref q2, .null, .int 0, .null, .int 0, .null])), (q0, .inr (1, [.ref (a1 0), .ref (a1 9), .ref (a1 18)])), (a1 0, .inr (2, [.int 0, .int 0, .int 0, .int 0, .ref (a1 1), .ref (a1 2), .ref (a1 3), .ref (a1 4), .ref (a1 5), .ref (a1 6), .ref (a1 7), .ref (a1 8)])), (a1 1, .inl (cA, (5, .inl (fun _ => 0)))), (a1 2, .inl (cA, (5, .inl (fun _ => 0)))), (a1 3, .inl (cA, (5, .inl (fun _ => 0)))), (a1 4, .inl (cA, (5, .inl (fun _ => 0)))), (a1 5, .inl (cA, (10, .inl (fun _ => 0)))), (a1 6, .inl (cA, (10, .inl (fun _ => 0)))), (a1 7, .inl (cA, (10, .inl (fun _ => 0)))), (a1 8, .inl (cA, (20, .inl fM9))), (a1 9, .inr (2, [.int 0, .int 0, .int 0, .int 0, .ref (a1 10), .ref (a1 11), .ref (a1 12), .ref (a1 13), .ref (a1 14), .ref (a1 15), .ref (a1 16), .ref (a1 17)])), (a1 10, .inl (cA, (5, .inl (fun _ => 0)))), (a1 11, .inl (cA, (5, .inl (fun _ => 0)))), (a1 12, .inl (cA, (5, .inl (fun _ => 0)))), (a1 13, .inl (cA, (5, .inl (fun _ => 0)))), (a1 14, .inl (cA, (10, .inl (fun _ => 0)))), (a1 15, .inl (cA, (10, .inl (fun _ => 0)))), (a1 16, .inl (cA, (10, .inl (fun _ => 0)))), (a1 17, .inl (cA, (20, .inl fM9))), (a1 18, .inl (cA, (4, .inl (fun _ => 0)))), (q2, .inr (0, [.ref (a3 0), .int 0])), (a3 0, .inl (cA, (96, .inl (fun _ => 0)))), (q4, .inr (2, [.int 0, .int 0, .int 0, .int 0, .ref (a5 0), .ref (a5 1), .ref (a5 2), .ref (a5 3), .ref (a5 4), .ref (a5 5), .ref (a5 6), .ref (a5 7)])), (a5 0, .inl (cA, (5, .inl (fun _ => 0)))), (a5 1, .inl (cA, (5, .inl (fun _ => 0)))), (a5 2, .inl (cA, (5, .inl (fun _ => 0)))), (a5 3, .inl (cA, (5, .inl (fun _ => 0)))), (a5 4, .inl (cA, (10, .inl (fun _ => 0)))), (a5 5, .inl (cA, (10, .inl (fun _ => 0)))), (a5 6, .inl (cA, (10, .inl (fun _ => 0)))), (a5 7, .inl (cA, (20, .inl fM9)))] H := hP
  have hD : va_D A [(h0, .inr (3, [.ref q0, .ref (a1 0), .ref q2, .null, .int 0, .null, .int 0, .null])), (q0, .inr (1, [.ref (a1 0), .ref (a1 9), .ref (a1 18)])), (a1 0, .inr (2, [.int 0, .int 0, .int 0, .int 0, .ref (a1 1), .ref (a1 2), .ref (a1 3), .ref (a1 4), .ref (a1 5), .ref (a1 6), .ref (a1 7), .ref (a1 8)])), (a1 1, .inl (cA, (5, .inl (fun _ => 0)))), (a1 2, .inl (cA, (5, .inl (fun _ => 0)))), (a1 3, .inl (cA, (5, .inl (fun _ => 0)))), (a1 4, .inl (cA, (5, .inl (fun _ => 0)))), (a1 5, .inl (cA, (10, .inl (fun _ => 0)))), (a1 6, .inl (cA, (10, .inl (fun _ => 0)))), (a1 7, .inl (cA, (10, .inl (fun _ => 0)))), (a1 8, .inl (cA, (20, .inl fM9))), (a1 9, .inr (2, [.int 0, .int 0, .int 0, .int 0, .ref (a1 10), .ref (a1 11), .ref (a1 12), .ref (a1 13), .ref (a1 14), .ref (a1 15), .ref (a1 16), .ref (a1 17)])), (a1 10, .inl (cA, (5, .inl (fun _ => 0)))), (a1 11, .inl (cA, (5, .inl (fun _ => 0)))), (a1 12, .inl (cA, (5, .inl (fun _ => 0)))), (a1 13, .inl (cA, (5, .inl (fun _ => 0)))), (a1 14, .inl (cA, (10, .inl (fun _ => 0)))), (a1 15, .inl (cA, (10, .inl (fun _ => 0)))), (a1 16, .inl (cA, (10, .inl (fun _ => 0)))), (a1 17, .inl (cA, (20, .inl fM9))), (a1 18, .inl (cA, (4, .inl (fun _ => 0)))), (q2, .inr (0, [.ref (a3 0), .int 0])), (a3 0, .inl (cA, (96, .inl (fun _ => 0)))), (q4, .inr (2, [.int 0, .int 0, .int 0, .int 0, .ref (a5 0), .ref (a5 1), .ref (a5 2), .ref (a5 3), .ref (a5 4), .ref (a5 5), .ref (a5 6), .ref (a5 7)])), (a5 0, .inl (cA, (5, .inl (fun _ => 0)))), (a5 1, .inl (cA, (5, .inl (fun _ => 0)))), (a5 2, .inl (cA, (5, .inl (fun _ => 0)))), (a5 3, .inl (cA, (5, .inl (fun _ => 0)))), (a5 4, .inl (cA, (10, .inl (fun _ => 0)))), (a5 5, .inl (cA, (10, .inl (fun _ => 0)))), (a5 6, .inl (cA, (10, .inl (fun _ => 0)))), (a5 7, .inl (cA, (20, .inl fM9)))] := hD
  refine va_putF (D := (dC, dI)) (ci := 3) (v := .ref q4) (ty := .object "LeansAgainstReason$Rack") (own := RX4) (ref := "LeansAgainstReason") (C := RX4) (T := TX4) (N := 8) hx hb hts (wu_all 3 (by decide)) tyX4 tyX4_ok nmX4 hown hK hP hD hS 0 rfl rfl 3 (by decide) (hts _ (wAt_in (p := 1127) (w := .fieldLink RX4 31 "LeansAgainstReason" "image" "LLeansAgainstReason$Rack;") (by decide +kernel))) (fun _ h9 => h9) rfl hin rfl (by decide +kernel) rfl rfl (Nat.le_of_ble_eq_true rfl) dX4_init_45 (fun H locs hP hD hS => ?_)
  have hP : va_P (dC, dI) vwC [(h0, .inr (3, [.ref q0, .ref (a1 0), .ref q2, .ref q4, .int 0, .null, .int 0, .null])), (q0, .inr (1, [.ref (a1 0), .ref (a1 9), .ref (a1 18)])), (a1 0, .inr (2, [.int 0, .int 0, .int 0, .int 0, .ref (a1 1), .ref (a1 2), .ref (a1 3), .ref (a1 4), .ref (a1 5), .ref (a1 6), .ref (a1 7), .ref (a1 8)])), (a1 1, .inl (cA, (5, .inl (fun _ => 0)))), (a1 2, .inl (cA, (5, .inl (fun _ => 0)))), (a1 3, .inl (cA, (5, .inl (fun _ => 0)))), (a1 4, .inl (cA, (5, .inl (fun _ => 0)))), (a1 5, .inl (cA, (10, .inl (fun _ => 0)))), (a1 6, .inl (cA, (10, .inl (fun _ => 0)))), (a1 7, .inl (cA, (10, .inl (fun _ => 0)))), (a1 8, .inl (cA, (20, .inl fM9))), (a1 9, .inr (2, [.int 0, .int 0, .int 0, .int 0, .ref (a1 10), .ref (a1 11), .ref (a1 12), .ref (a1 13), .ref (a1 14), .ref (a1 15), .ref (a1 16), .ref (a1 17)])), (a1 10, .inl (cA, (5, .inl (fun _ => 0)))), (a1 11, .inl (cA, (5, .inl (fun _ => 0)))), (a1 12, .inl (cA, (5, .inl (fun _ => 0)))), (a1 13, .inl (cA, (5, .inl (fun _ => 0)))), (a1 14, .inl (cA, (10, .inl (fun _ => 0)))), (a1 15, .inl (cA, (10, .inl (fun _ => 0)))), (a1 16, .inl (cA, (10, .inl (fun _ => 0)))), (a1 17, .inl (cA, (20, .inl fM9))), (a1 18, .inl (cA, (4, .inl (fun _ => 0)))), (q2, .inr (0, [.ref (a3 0), .int 0])), (a3 0, .inl (cA, (96, .inl (fun _ => 0)))), (q4, .inr (2, [.int 0, .int 0, .int 0, .int 0, .ref (a5 0), .ref (a5 1), .ref (a5 2), .ref (a5 3), .ref (a5 4), .ref (a5 5), .ref (a5 6), .ref (a5 7)])), (a5 0, .inl (cA, (5, .inl (fun _ => 0)))), (a5 1, .inl (cA, (5, .inl (fun _ => 0)))), (a5 2, .inl (cA, (5, .inl (fun _ => 0)))), (a5 3, .inl (cA, (5, .inl (fun _ => 0)))), (a5 4, .inl (cA, (10, .inl (fun _ => 0)))), (a5 5, .inl (cA, (10, .inl (fun _ => 0)))), (a5 6, .inl (cA, (10, .inl (fun _ => 0)))), (a5 7, .inl (cA, (20, .inl fM9)))] H := hP
  have hD : va_D A [(h0, .inr (3, [.ref q0, .ref (a1 0), .ref q2, .ref q4, .int 0, .null, .int 0, .null])), (q0, .inr (1, [.ref (a1 0), .ref (a1 9), .ref (a1 18)])), (a1 0, .inr (2, [.int 0, .int 0, .int 0, .int 0, .ref (a1 1), .ref (a1 2), .ref (a1 3), .ref (a1 4), .ref (a1 5), .ref (a1 6), .ref (a1 7), .ref (a1 8)])), (a1 1, .inl (cA, (5, .inl (fun _ => 0)))), (a1 2, .inl (cA, (5, .inl (fun _ => 0)))), (a1 3, .inl (cA, (5, .inl (fun _ => 0)))), (a1 4, .inl (cA, (5, .inl (fun _ => 0)))), (a1 5, .inl (cA, (10, .inl (fun _ => 0)))), (a1 6, .inl (cA, (10, .inl (fun _ => 0)))), (a1 7, .inl (cA, (10, .inl (fun _ => 0)))), (a1 8, .inl (cA, (20, .inl fM9))), (a1 9, .inr (2, [.int 0, .int 0, .int 0, .int 0, .ref (a1 10), .ref (a1 11), .ref (a1 12), .ref (a1 13), .ref (a1 14), .ref (a1 15), .ref (a1 16), .ref (a1 17)])), (a1 10, .inl (cA, (5, .inl (fun _ => 0)))), (a1 11, .inl (cA, (5, .inl (fun _ => 0)))), (a1 12, .inl (cA, (5, .inl (fun _ => 0)))), (a1 13, .inl (cA, (5, .inl (fun _ => 0)))), (a1 14, .inl (cA, (10, .inl (fun _ => 0)))), (a1 15, .inl (cA, (10, .inl (fun _ => 0)))), (a1 16, .inl (cA, (10, .inl (fun _ => 0)))), (a1 17, .inl (cA, (20, .inl fM9))), (a1 18, .inl (cA, (4, .inl (fun _ => 0)))), (q2, .inr (0, [.ref (a3 0), .int 0])), (a3 0, .inl (cA, (96, .inl (fun _ => 0)))), (q4, .inr (2, [.int 0, .int 0, .int 0, .int 0, .ref (a5 0), .ref (a5 1), .ref (a5 2), .ref (a5 3), .ref (a5 4), .ref (a5 5), .ref (a5 6), .ref (a5 7)])), (a5 0, .inl (cA, (5, .inl (fun _ => 0)))), (a5 1, .inl (cA, (5, .inl (fun _ => 0)))), (a5 2, .inl (cA, (5, .inl (fun _ => 0)))), (a5 3, .inl (cA, (5, .inl (fun _ => 0)))), (a5 4, .inl (cA, (10, .inl (fun _ => 0)))), (a5 5, .inl (cA, (10, .inl (fun _ => 0)))), (a5 6, .inl (cA, (10, .inl (fun _ => 0)))), (a5 7, .inl (cA, (20, .inl fM9)))] := hD
  refine lv_aload_n hx hb dX4_init_48 rfl (lv_at hl 0 rfl) ?_
  refine lv_iconst (v := 0) hx hb dX4_init_49 (by decide) ?_
  refine va_put (D := (dC, dI)) (ci := 3) (v := .int 0) (ty := .boolean) (own := RX4) (ref := "LeansAgainstReason") (C := RX4) (T := TX4) (N := 8) hx hb hts (wu_all 3 (by decide)) tyX4 tyX4_ok nmX4 hown hK hP hD hS 0 rfl rfl 4 (by decide) (hts _ (wAt_in (p := 1128) (w := .fieldLink RX4 34 "LeansAgainstReason" "imageTaken" "Z") (by decide +kernel))) (fun _ h9 => h9) rfl (by decide +kernel) rfl rfl (Nat.le_of_ble_eq_true rfl) dX4_init_50 (fun H locs hP hD hS => ?_)
  have hP : va_P (dC, dI) vwC [(h0, .inr (3, [.ref q0, .ref (a1 0), .ref q2, .ref q4, .int 0, .null, .int 0, .null])), (q0, .inr (1, [.ref (a1 0), .ref (a1 9), .ref (a1 18)])), (a1 0, .inr (2, [.int 0, .int 0, .int 0, .int 0, .ref (a1 1), .ref (a1 2), .ref (a1 3), .ref (a1 4), .ref (a1 5), .ref (a1 6), .ref (a1 7), .ref (a1 8)])), (a1 1, .inl (cA, (5, .inl (fun _ => 0)))), (a1 2, .inl (cA, (5, .inl (fun _ => 0)))), (a1 3, .inl (cA, (5, .inl (fun _ => 0)))), (a1 4, .inl (cA, (5, .inl (fun _ => 0)))), (a1 5, .inl (cA, (10, .inl (fun _ => 0)))), (a1 6, .inl (cA, (10, .inl (fun _ => 0)))), (a1 7, .inl (cA, (10, .inl (fun _ => 0)))), (a1 8, .inl (cA, (20, .inl fM9))), (a1 9, .inr (2, [.int 0, .int 0, .int 0, .int 0, .ref (a1 10), .ref (a1 11), .ref (a1 12), .ref (a1 13), .ref (a1 14), .ref (a1 15), .ref (a1 16), .ref (a1 17)])), (a1 10, .inl (cA, (5, .inl (fun _ => 0)))), (a1 11, .inl (cA, (5, .inl (fun _ => 0)))), (a1 12, .inl (cA, (5, .inl (fun _ => 0)))), (a1 13, .inl (cA, (5, .inl (fun _ => 0)))), (a1 14, .inl (cA, (10, .inl (fun _ => 0)))), (a1 15, .inl (cA, (10, .inl (fun _ => 0)))), (a1 16, .inl (cA, (10, .inl (fun _ => 0)))), (a1 17, .inl (cA, (20, .inl fM9))), (a1 18, .inl (cA, (4, .inl (fun _ => 0)))), (q2, .inr (0, [.ref (a3 0), .int 0])), (a3 0, .inl (cA, (96, .inl (fun _ => 0)))), (q4, .inr (2, [.int 0, .int 0, .int 0, .int 0, .ref (a5 0), .ref (a5 1), .ref (a5 2), .ref (a5 3), .ref (a5 4), .ref (a5 5), .ref (a5 6), .ref (a5 7)])), (a5 0, .inl (cA, (5, .inl (fun _ => 0)))), (a5 1, .inl (cA, (5, .inl (fun _ => 0)))), (a5 2, .inl (cA, (5, .inl (fun _ => 0)))), (a5 3, .inl (cA, (5, .inl (fun _ => 0)))), (a5 4, .inl (cA, (10, .inl (fun _ => 0)))), (a5 5, .inl (cA, (10, .inl (fun _ => 0)))), (a5 6, .inl (cA, (10, .inl (fun _ => 0)))), (a5 7, .inl (cA, (20, .inl fM9)))] H := hP
  have hD : va_D A [(h0, .inr (3, [.ref q0, .ref (a1 0), .ref q2, .ref q4, .int 0, .null, .int 0, .null])), (q0, .inr (1, [.ref (a1 0), .ref (a1 9), .ref (a1 18)])), (a1 0, .inr (2, [.int 0, .int 0, .int 0, .int 0, .ref (a1 1), .ref (a1 2), .ref (a1 3), .ref (a1 4), .ref (a1 5), .ref (a1 6), .ref (a1 7), .ref (a1 8)])), (a1 1, .inl (cA, (5, .inl (fun _ => 0)))), (a1 2, .inl (cA, (5, .inl (fun _ => 0)))), (a1 3, .inl (cA, (5, .inl (fun _ => 0)))), (a1 4, .inl (cA, (5, .inl (fun _ => 0)))), (a1 5, .inl (cA, (10, .inl (fun _ => 0)))), (a1 6, .inl (cA, (10, .inl (fun _ => 0)))), (a1 7, .inl (cA, (10, .inl (fun _ => 0)))), (a1 8, .inl (cA, (20, .inl fM9))), (a1 9, .inr (2, [.int 0, .int 0, .int 0, .int 0, .ref (a1 10), .ref (a1 11), .ref (a1 12), .ref (a1 13), .ref (a1 14), .ref (a1 15), .ref (a1 16), .ref (a1 17)])), (a1 10, .inl (cA, (5, .inl (fun _ => 0)))), (a1 11, .inl (cA, (5, .inl (fun _ => 0)))), (a1 12, .inl (cA, (5, .inl (fun _ => 0)))), (a1 13, .inl (cA, (5, .inl (fun _ => 0)))), (a1 14, .inl (cA, (10, .inl (fun _ => 0)))), (a1 15, .inl (cA, (10, .inl (fun _ => 0)))), (a1 16, .inl (cA, (10, .inl (fun _ => 0)))), (a1 17, .inl (cA, (20, .inl fM9))), (a1 18, .inl (cA, (4, .inl (fun _ => 0)))), (q2, .inr (0, [.ref (a3 0), .int 0])), (a3 0, .inl (cA, (96, .inl (fun _ => 0)))), (q4, .inr (2, [.int 0, .int 0, .int 0, .int 0, .ref (a5 0), .ref (a5 1), .ref (a5 2), .ref (a5 3), .ref (a5 4), .ref (a5 5), .ref (a5 6), .ref (a5 7)])), (a5 0, .inl (cA, (5, .inl (fun _ => 0)))), (a5 1, .inl (cA, (5, .inl (fun _ => 0)))), (a5 2, .inl (cA, (5, .inl (fun _ => 0)))), (a5 3, .inl (cA, (5, .inl (fun _ => 0)))), (a5 4, .inl (cA, (10, .inl (fun _ => 0)))), (a5 5, .inl (cA, (10, .inl (fun _ => 0)))), (a5 6, .inl (cA, (10, .inl (fun _ => 0)))), (a5 7, .inl (cA, (20, .inl fM9)))] := hD
  refine lv_aload_n hx hb dX4_init_53 rfl (lv_at hl 0 rfl) ?_
  refine lv_bipush (v := 16) hx hb dX4_init_54 (by decide) ?_
  refine va_newa (atype := .int) (n := 16) (N' := 16) (a0 := (16, .inl (fun _ => 0))) hx hb (hts _ (wAt_in (p := 1095) (w := .arrayClass .int) (by decide +kernel))) rfl hK hP hD hS hA (fun _ => rfl) (by decide) (by decide) (by decide) (show 31 + 1 ≤ 33 by decide) (show 351 + 16 ≤ 374 by decide) dX4_init_56 (fun q6 cB H hK2 hP hD hS => ?_)
  have e9 := (cA_eq hK2).symm
  subst e9
  refine va_putF (D := (dC, dI)) (ci := 3) (v := .ref q6) (ty := .array .int) (own := RX4) (ref := "LeansAgainstReason") (C := RX4) (T := TX4) (N := 8) hx hb hts (wu_all 3 (by decide)) tyX4 tyX4_ok nmX4 hown hK hP hD hS 0 rfl rfl 5 (by decide) (hts _ (wAt_in (p := 1129) (w := .fieldLink RX4 38 "LeansAgainstReason" "row" "[I") (by decide +kernel))) (fun _ h9 => h9) rfl hin rfl (by decide +kernel) rfl rfl (Nat.le_of_ble_eq_true rfl) dX4_init_58 (fun H locs hP hD hS => ?_)
  have hP : va_P (dC, dI) vwC [(h0, .inr (3, [.ref q0, .ref (a1 0), .ref q2, .ref q4, .int 0, .ref q6, .int 0, .null])), (q0, .inr (1, [.ref (a1 0), .ref (a1 9), .ref (a1 18)])), (a1 0, .inr (2, [.int 0, .int 0, .int 0, .int 0, .ref (a1 1), .ref (a1 2), .ref (a1 3), .ref (a1 4), .ref (a1 5), .ref (a1 6), .ref (a1 7), .ref (a1 8)])), (a1 1, .inl (cA, (5, .inl (fun _ => 0)))), (a1 2, .inl (cA, (5, .inl (fun _ => 0)))), (a1 3, .inl (cA, (5, .inl (fun _ => 0)))), (a1 4, .inl (cA, (5, .inl (fun _ => 0)))), (a1 5, .inl (cA, (10, .inl (fun _ => 0)))), (a1 6, .inl (cA, (10, .inl (fun _ => 0)))), (a1 7, .inl (cA, (10, .inl (fun _ => 0)))), (a1 8, .inl (cA, (20, .inl fM9))), (a1 9, .inr (2, [.int 0, .int 0, .int 0, .int 0, .ref (a1 10), .ref (a1 11), .ref (a1 12), .ref (a1 13), .ref (a1 14), .ref (a1 15), .ref (a1 16), .ref (a1 17)])), (a1 10, .inl (cA, (5, .inl (fun _ => 0)))), (a1 11, .inl (cA, (5, .inl (fun _ => 0)))), (a1 12, .inl (cA, (5, .inl (fun _ => 0)))), (a1 13, .inl (cA, (5, .inl (fun _ => 0)))), (a1 14, .inl (cA, (10, .inl (fun _ => 0)))), (a1 15, .inl (cA, (10, .inl (fun _ => 0)))), (a1 16, .inl (cA, (10, .inl (fun _ => 0)))), (a1 17, .inl (cA, (20, .inl fM9))), (a1 18, .inl (cA, (4, .inl (fun _ => 0)))), (q2, .inr (0, [.ref (a3 0), .int 0])), (a3 0, .inl (cA, (96, .inl (fun _ => 0)))), (q4, .inr (2, [.int 0, .int 0, .int 0, .int 0, .ref (a5 0), .ref (a5 1), .ref (a5 2), .ref (a5 3), .ref (a5 4), .ref (a5 5), .ref (a5 6), .ref (a5 7)])), (a5 0, .inl (cA, (5, .inl (fun _ => 0)))), (a5 1, .inl (cA, (5, .inl (fun _ => 0)))), (a5 2, .inl (cA, (5, .inl (fun _ => 0)))), (a5 3, .inl (cA, (5, .inl (fun _ => 0)))), (a5 4, .inl (cA, (10, .inl (fun _ => 0)))), (a5 5, .inl (cA, (10, .inl (fun _ => 0)))), (a5 6, .inl (cA, (10, .inl (fun _ => 0)))), (a5 7, .inl (cA, (20, .inl fM9))), (q6, .inl (cA, (16, .inl (fun _ => 0))))] H := hP
  have hD : va_D A [(h0, .inr (3, [.ref q0, .ref (a1 0), .ref q2, .ref q4, .int 0, .ref q6, .int 0, .null])), (q0, .inr (1, [.ref (a1 0), .ref (a1 9), .ref (a1 18)])), (a1 0, .inr (2, [.int 0, .int 0, .int 0, .int 0, .ref (a1 1), .ref (a1 2), .ref (a1 3), .ref (a1 4), .ref (a1 5), .ref (a1 6), .ref (a1 7), .ref (a1 8)])), (a1 1, .inl (cA, (5, .inl (fun _ => 0)))), (a1 2, .inl (cA, (5, .inl (fun _ => 0)))), (a1 3, .inl (cA, (5, .inl (fun _ => 0)))), (a1 4, .inl (cA, (5, .inl (fun _ => 0)))), (a1 5, .inl (cA, (10, .inl (fun _ => 0)))), (a1 6, .inl (cA, (10, .inl (fun _ => 0)))), (a1 7, .inl (cA, (10, .inl (fun _ => 0)))), (a1 8, .inl (cA, (20, .inl fM9))), (a1 9, .inr (2, [.int 0, .int 0, .int 0, .int 0, .ref (a1 10), .ref (a1 11), .ref (a1 12), .ref (a1 13), .ref (a1 14), .ref (a1 15), .ref (a1 16), .ref (a1 17)])), (a1 10, .inl (cA, (5, .inl (fun _ => 0)))), (a1 11, .inl (cA, (5, .inl (fun _ => 0)))), (a1 12, .inl (cA, (5, .inl (fun _ => 0)))), (a1 13, .inl (cA, (5, .inl (fun _ => 0)))), (a1 14, .inl (cA, (10, .inl (fun _ => 0)))), (a1 15, .inl (cA, (10, .inl (fun _ => 0)))), (a1 16, .inl (cA, (10, .inl (fun _ => 0)))), (a1 17, .inl (cA, (20, .inl fM9))), (a1 18, .inl (cA, (4, .inl (fun _ => 0)))), (q2, .inr (0, [.ref (a3 0), .int 0])), (a3 0, .inl (cA, (96, .inl (fun _ => 0)))), (q4, .inr (2, [.int 0, .int 0, .int 0, .int 0, .ref (a5 0), .ref (a5 1), .ref (a5 2), .ref (a5 3), .ref (a5 4), .ref (a5 5), .ref (a5 6), .ref (a5 7)])), (a5 0, .inl (cA, (5, .inl (fun _ => 0)))), (a5 1, .inl (cA, (5, .inl (fun _ => 0)))), (a5 2, .inl (cA, (5, .inl (fun _ => 0)))), (a5 3, .inl (cA, (5, .inl (fun _ => 0)))), (a5 4, .inl (cA, (10, .inl (fun _ => 0)))), (a5 5, .inl (cA, (10, .inl (fun _ => 0)))), (a5 6, .inl (cA, (10, .inl (fun _ => 0)))), (a5 7, .inl (cA, (20, .inl fM9))), (q6, .inl (cA, (16, .inl (fun _ => 0))))] := hD
  refine lv_aload_n hx hb dX4_init_61 rfl (lv_at hl 0 rfl) ?_
  refine lv_iconst (v := 0) hx hb dX4_init_62 (by decide) ?_
  refine va_put (D := (dC, dI)) (ci := 3) (v := .int 0) (ty := .int) (own := RX4) (ref := "LeansAgainstReason") (C := RX4) (T := TX4) (N := 8) hx hb hts (wu_all 3 (by decide)) tyX4 tyX4_ok nmX4 hown hK hP hD hS 0 rfl rfl 6 (by decide) (hts _ (wAt_in (p := 1130) (w := .fieldLink RX4 42 "LeansAgainstReason" "inRow" "I") (by decide +kernel))) (fun _ h9 => h9) rfl (by decide +kernel) rfl rfl (Nat.le_of_ble_eq_true rfl) dX4_init_63 (fun H locs hP hD hS => ?_)
  have hP : va_P (dC, dI) vwC [(h0, .inr (3, [.ref q0, .ref (a1 0), .ref q2, .ref q4, .int 0, .ref q6, .int 0, .null])), (q0, .inr (1, [.ref (a1 0), .ref (a1 9), .ref (a1 18)])), (a1 0, .inr (2, [.int 0, .int 0, .int 0, .int 0, .ref (a1 1), .ref (a1 2), .ref (a1 3), .ref (a1 4), .ref (a1 5), .ref (a1 6), .ref (a1 7), .ref (a1 8)])), (a1 1, .inl (cA, (5, .inl (fun _ => 0)))), (a1 2, .inl (cA, (5, .inl (fun _ => 0)))), (a1 3, .inl (cA, (5, .inl (fun _ => 0)))), (a1 4, .inl (cA, (5, .inl (fun _ => 0)))), (a1 5, .inl (cA, (10, .inl (fun _ => 0)))), (a1 6, .inl (cA, (10, .inl (fun _ => 0)))), (a1 7, .inl (cA, (10, .inl (fun _ => 0)))), (a1 8, .inl (cA, (20, .inl fM9))), (a1 9, .inr (2, [.int 0, .int 0, .int 0, .int 0, .ref (a1 10), .ref (a1 11), .ref (a1 12), .ref (a1 13), .ref (a1 14), .ref (a1 15), .ref (a1 16), .ref (a1 17)])), (a1 10, .inl (cA, (5, .inl (fun _ => 0)))), (a1 11, .inl (cA, (5, .inl (fun _ => 0)))), (a1 12, .inl (cA, (5, .inl (fun _ => 0)))), (a1 13, .inl (cA, (5, .inl (fun _ => 0)))), (a1 14, .inl (cA, (10, .inl (fun _ => 0)))), (a1 15, .inl (cA, (10, .inl (fun _ => 0)))), (a1 16, .inl (cA, (10, .inl (fun _ => 0)))), (a1 17, .inl (cA, (20, .inl fM9))), (a1 18, .inl (cA, (4, .inl (fun _ => 0)))), (q2, .inr (0, [.ref (a3 0), .int 0])), (a3 0, .inl (cA, (96, .inl (fun _ => 0)))), (q4, .inr (2, [.int 0, .int 0, .int 0, .int 0, .ref (a5 0), .ref (a5 1), .ref (a5 2), .ref (a5 3), .ref (a5 4), .ref (a5 5), .ref (a5 6), .ref (a5 7)])), (a5 0, .inl (cA, (5, .inl (fun _ => 0)))), (a5 1, .inl (cA, (5, .inl (fun _ => 0)))), (a5 2, .inl (cA, (5, .inl (fun _ => 0)))), (a5 3, .inl (cA, (5, .inl (fun _ => 0)))), (a5 4, .inl (cA, (10, .inl (fun _ => 0)))), (a5 5, .inl (cA, (10, .inl (fun _ => 0)))), (a5 6, .inl (cA, (10, .inl (fun _ => 0)))), (a5 7, .inl (cA, (20, .inl fM9))), (q6, .inl (cA, (16, .inl (fun _ => 0))))] H := hP
  have hD : va_D A [(h0, .inr (3, [.ref q0, .ref (a1 0), .ref q2, .ref q4, .int 0, .ref q6, .int 0, .null])), (q0, .inr (1, [.ref (a1 0), .ref (a1 9), .ref (a1 18)])), (a1 0, .inr (2, [.int 0, .int 0, .int 0, .int 0, .ref (a1 1), .ref (a1 2), .ref (a1 3), .ref (a1 4), .ref (a1 5), .ref (a1 6), .ref (a1 7), .ref (a1 8)])), (a1 1, .inl (cA, (5, .inl (fun _ => 0)))), (a1 2, .inl (cA, (5, .inl (fun _ => 0)))), (a1 3, .inl (cA, (5, .inl (fun _ => 0)))), (a1 4, .inl (cA, (5, .inl (fun _ => 0)))), (a1 5, .inl (cA, (10, .inl (fun _ => 0)))), (a1 6, .inl (cA, (10, .inl (fun _ => 0)))), (a1 7, .inl (cA, (10, .inl (fun _ => 0)))), (a1 8, .inl (cA, (20, .inl fM9))), (a1 9, .inr (2, [.int 0, .int 0, .int 0, .int 0, .ref (a1 10), .ref (a1 11), .ref (a1 12), .ref (a1 13), .ref (a1 14), .ref (a1 15), .ref (a1 16), .ref (a1 17)])), (a1 10, .inl (cA, (5, .inl (fun _ => 0)))), (a1 11, .inl (cA, (5, .inl (fun _ => 0)))), (a1 12, .inl (cA, (5, .inl (fun _ => 0)))), (a1 13, .inl (cA, (5, .inl (fun _ => 0)))), (a1 14, .inl (cA, (10, .inl (fun _ => 0)))), (a1 15, .inl (cA, (10, .inl (fun _ => 0)))), (a1 16, .inl (cA, (10, .inl (fun _ => 0)))), (a1 17, .inl (cA, (20, .inl fM9))), (a1 18, .inl (cA, (4, .inl (fun _ => 0)))), (q2, .inr (0, [.ref (a3 0), .int 0])), (a3 0, .inl (cA, (96, .inl (fun _ => 0)))), (q4, .inr (2, [.int 0, .int 0, .int 0, .int 0, .ref (a5 0), .ref (a5 1), .ref (a5 2), .ref (a5 3), .ref (a5 4), .ref (a5 5), .ref (a5 6), .ref (a5 7)])), (a5 0, .inl (cA, (5, .inl (fun _ => 0)))), (a5 1, .inl (cA, (5, .inl (fun _ => 0)))), (a5 2, .inl (cA, (5, .inl (fun _ => 0)))), (a5 3, .inl (cA, (5, .inl (fun _ => 0)))), (a5 4, .inl (cA, (10, .inl (fun _ => 0)))), (a5 5, .inl (cA, (10, .inl (fun _ => 0)))), (a5 6, .inl (cA, (10, .inl (fun _ => 0)))), (a5 7, .inl (cA, (20, .inl fM9))), (q6, .inl (cA, (16, .inl (fun _ => 0))))] := hD
  refine lv_aload_n hx hb dX4_init_66 rfl (lv_at hl 0 rfl) ?_
  refine lv_bipush (v := 7) hx hb dX4_init_67 (by decide) ?_
  refine va_newa (atype := .int) (n := 7) (N' := 7) (a0 := (7, .inl (fun _ => 0))) hx hb (hts _ (wAt_in (p := 1095) (w := .arrayClass .int) (by decide +kernel))) rfl hK hP hD hS hA (fun _ => rfl) (by decide) (by decide) (by decide) (show 32 + 1 ≤ 33 by decide) (show 367 + 7 ≤ 374 by decide) dX4_init_69 (fun q7 cB H hK2 hP hD hS => ?_)
  have e9 := (cA_eq hK2).symm
  subst e9
  refine va_putF (D := (dC, dI)) (ci := 3) (v := .ref q7) (ty := .array .int) (own := RX4) (ref := "LeansAgainstReason") (C := RX4) (T := TX4) (N := 8) hx hb hts (wu_all 3 (by decide)) tyX4 tyX4_ok nmX4 hown hK hP hD hS 0 rfl rfl 7 (by decide) (hts _ (wAt_in (p := 1131) (w := .fieldLink RX4 46 "LeansAgainstReason" "refusals" "[I") (by decide +kernel))) (fun _ h9 => h9) rfl hin rfl (by decide +kernel) rfl rfl (Nat.le_of_ble_eq_true rfl) dX4_init_71 (fun H locs hP hD hS => ?_)
  have hP : va_P (dC, dI) vwC [(h0, .inr (3, [.ref q0, .ref (a1 0), .ref q2, .ref q4, .int 0, .ref q6, .int 0, .ref q7])), (q0, .inr (1, [.ref (a1 0), .ref (a1 9), .ref (a1 18)])), (a1 0, .inr (2, [.int 0, .int 0, .int 0, .int 0, .ref (a1 1), .ref (a1 2), .ref (a1 3), .ref (a1 4), .ref (a1 5), .ref (a1 6), .ref (a1 7), .ref (a1 8)])), (a1 1, .inl (cA, (5, .inl (fun _ => 0)))), (a1 2, .inl (cA, (5, .inl (fun _ => 0)))), (a1 3, .inl (cA, (5, .inl (fun _ => 0)))), (a1 4, .inl (cA, (5, .inl (fun _ => 0)))), (a1 5, .inl (cA, (10, .inl (fun _ => 0)))), (a1 6, .inl (cA, (10, .inl (fun _ => 0)))), (a1 7, .inl (cA, (10, .inl (fun _ => 0)))), (a1 8, .inl (cA, (20, .inl fM9))), (a1 9, .inr (2, [.int 0, .int 0, .int 0, .int 0, .ref (a1 10), .ref (a1 11), .ref (a1 12), .ref (a1 13), .ref (a1 14), .ref (a1 15), .ref (a1 16), .ref (a1 17)])), (a1 10, .inl (cA, (5, .inl (fun _ => 0)))), (a1 11, .inl (cA, (5, .inl (fun _ => 0)))), (a1 12, .inl (cA, (5, .inl (fun _ => 0)))), (a1 13, .inl (cA, (5, .inl (fun _ => 0)))), (a1 14, .inl (cA, (10, .inl (fun _ => 0)))), (a1 15, .inl (cA, (10, .inl (fun _ => 0)))), (a1 16, .inl (cA, (10, .inl (fun _ => 0)))), (a1 17, .inl (cA, (20, .inl fM9))), (a1 18, .inl (cA, (4, .inl (fun _ => 0)))), (q2, .inr (0, [.ref (a3 0), .int 0])), (a3 0, .inl (cA, (96, .inl (fun _ => 0)))), (q4, .inr (2, [.int 0, .int 0, .int 0, .int 0, .ref (a5 0), .ref (a5 1), .ref (a5 2), .ref (a5 3), .ref (a5 4), .ref (a5 5), .ref (a5 6), .ref (a5 7)])), (a5 0, .inl (cA, (5, .inl (fun _ => 0)))), (a5 1, .inl (cA, (5, .inl (fun _ => 0)))), (a5 2, .inl (cA, (5, .inl (fun _ => 0)))), (a5 3, .inl (cA, (5, .inl (fun _ => 0)))), (a5 4, .inl (cA, (10, .inl (fun _ => 0)))), (a5 5, .inl (cA, (10, .inl (fun _ => 0)))), (a5 6, .inl (cA, (10, .inl (fun _ => 0)))), (a5 7, .inl (cA, (20, .inl fM9))), (q6, .inl (cA, (16, .inl (fun _ => 0)))), (q7, .inl (cA, (7, .inl (fun _ => 0))))] H := hP
  have hD : va_D A [(h0, .inr (3, [.ref q0, .ref (a1 0), .ref q2, .ref q4, .int 0, .ref q6, .int 0, .ref q7])), (q0, .inr (1, [.ref (a1 0), .ref (a1 9), .ref (a1 18)])), (a1 0, .inr (2, [.int 0, .int 0, .int 0, .int 0, .ref (a1 1), .ref (a1 2), .ref (a1 3), .ref (a1 4), .ref (a1 5), .ref (a1 6), .ref (a1 7), .ref (a1 8)])), (a1 1, .inl (cA, (5, .inl (fun _ => 0)))), (a1 2, .inl (cA, (5, .inl (fun _ => 0)))), (a1 3, .inl (cA, (5, .inl (fun _ => 0)))), (a1 4, .inl (cA, (5, .inl (fun _ => 0)))), (a1 5, .inl (cA, (10, .inl (fun _ => 0)))), (a1 6, .inl (cA, (10, .inl (fun _ => 0)))), (a1 7, .inl (cA, (10, .inl (fun _ => 0)))), (a1 8, .inl (cA, (20, .inl fM9))), (a1 9, .inr (2, [.int 0, .int 0, .int 0, .int 0, .ref (a1 10), .ref (a1 11), .ref (a1 12), .ref (a1 13), .ref (a1 14), .ref (a1 15), .ref (a1 16), .ref (a1 17)])), (a1 10, .inl (cA, (5, .inl (fun _ => 0)))), (a1 11, .inl (cA, (5, .inl (fun _ => 0)))), (a1 12, .inl (cA, (5, .inl (fun _ => 0)))), (a1 13, .inl (cA, (5, .inl (fun _ => 0)))), (a1 14, .inl (cA, (10, .inl (fun _ => 0)))), (a1 15, .inl (cA, (10, .inl (fun _ => 0)))), (a1 16, .inl (cA, (10, .inl (fun _ => 0)))), (a1 17, .inl (cA, (20, .inl fM9))), (a1 18, .inl (cA, (4, .inl (fun _ => 0)))), (q2, .inr (0, [.ref (a3 0), .int 0])), (a3 0, .inl (cA, (96, .inl (fun _ => 0)))), (q4, .inr (2, [.int 0, .int 0, .int 0, .int 0, .ref (a5 0), .ref (a5 1), .ref (a5 2), .ref (a5 3), .ref (a5 4), .ref (a5 5), .ref (a5 6), .ref (a5 7)])), (a5 0, .inl (cA, (5, .inl (fun _ => 0)))), (a5 1, .inl (cA, (5, .inl (fun _ => 0)))), (a5 2, .inl (cA, (5, .inl (fun _ => 0)))), (a5 3, .inl (cA, (5, .inl (fun _ => 0)))), (a5 4, .inl (cA, (10, .inl (fun _ => 0)))), (a5 5, .inl (cA, (10, .inl (fun _ => 0)))), (a5 6, .inl (cA, (10, .inl (fun _ => 0)))), (a5 7, .inl (cA, (20, .inl fM9))), (q6, .inl (cA, (16, .inl (fun _ => 0)))), (q7, .inl (cA, (7, .inl (fun _ => 0))))] := hD
  refine W.widen (k := 33) (n := 374) (by decide) (by decide) ?_
  refine W.vret hx hb hr (fun t ht hW => ⟨⟨(fun i => ([q0, (a1 0), (a1 1), (a1 2), (a1 3), (a1 4), (a1 5), (a1 6), (a1 7), (a1 8), (a1 9), (a1 10), (a1 11), (a1 12), (a1 13), (a1 14), (a1 15), (a1 16), (a1 17), (a1 18), q2, (a3 0), q4, (a5 0), (a5 1), (a5 2), (a5 3), (a5 4), (a5 5), (a5 6), (a5 7), q6, q7] : List Nat).getD i 0), rfl, trivial, by rw [ht]; exact hP, hD⟩, hS.F ht⟩) hS.2.2 dX4_init_74
set_option maxHeartbeats 4000000 in
set_option maxRecDepth 100000 in
/-- LeansAgainstReasonModel() -/
theorem c_X5_init (l : Launch) (dC : Nat → ClassId) (dI : Nat → Nat → Nat) (cA : ClassId) (h0 sz : Nat) : Met l yX5_init (.code yX5_init cX5_init 1 none :: lwg) ({ frames := 1, cells := 9, slots := 359, locals := 12 }) (va_Pc [.ref h0] (fun U => U.heap.size = sz ∧ va_P (dC, dI) vwC [(h0, .inr (4, [.null, .null, .null, .null, .null, .int 0, .null, .null, .null, .int 0, .int 0, .int 0, .null, .int 0]))] U.heap ∧ va_K (dC, dI) vwC [(cA, .int)] U ∧ va_D (fun _ => True) [(h0, .inr (4, [.null, .null, .null, .null, .null, .int 0, .null, .null, .null, .int 0, .int 0, .int 0, .null, .int 0]))])) (va_Qv (fun _ : Nat → Nat => True) (fun a t => va_P (dC, dI) vwC (cwN cA h0 a) t.heap ∧ va_D (va_A [(h0, .inr (4, [.null, .null, .null, .null, .null, .int 0, .null, .null, .null, .int 0, .int 0, .int 0, .null, .int 0]))] sz) (cwN cA h0 a)) (va_A [(h0, .inr (4, [.null, .null, .null, .null, .null, .int 0, .null, .null, .null, .int 0, .int 0, .int 0, .null, .int 0]))] sz)) 9 359 (va_A [(h0, .inr (4, [.null, .null, .null, .null, .null, .int 0, .null, .null, .null, .int 0, .int 0, .int 0, .null, .int 0]))] sz) := by
  refine Met.ofW (cc := cX5_init) (maxL := 1) (ret := none) (by decide) rfl ?_
  intro p e s m args below meth c s₁ B hml hv
  obtain ⟨rfl, hsz, hP, hK, hD0⟩ := hv
  have hx := B.exec
  have hb := B.bytes
  have hr := B.returns
  have hts0 := atoms_spec (ws := .code yX5_init cX5_init 1 none :: lwg) B.pre
  have hts : ∀ w ∈ lwg, w.before ([Value.ref h0] : List Value).toArray s = true := fun w hw => hts0 w (List.mem_cons_of_mem _ hw)
  have hown : s.vm.findClass RX5 = some m.cls := findClass_of_methodNamed B.named
  have hlocks := B.notSynchronized
  have hin : meth.name = "<init>" := (name_of_methodNamed B.named B.method).1
  subst hsz
  have hD := hD0.self (sz := s.heap.size)
  generalize hAe : va_A [(h0, .inr (4, [.null, .null, .null, .null, .null, .int 0, .null, .null, .null, .int 0, .int 0, .int 0, .null, .int 0]))] s.heap.size = A at hD ⊢
  have hA : ∀ q : Nat, s.heap.size ≤ q → A q := fun q h => by rw [← hAe]; exact Or.inr h
  have hS : va_S A s.heap s.heap [] := va_S.rf
  have hl := lv_entry ([.ref h0]) (n := 1) (Nat.le_of_ble_eq_true rfl)
  rw [lg_entry_eq]
  generalize (lg_sl ([.ref h0]) ++ List.replicate (1 - (lg_sl ([.ref h0])).length) Slot.unset).toArray = ls at hl ⊢
  have hl : lv_has ls 1 [(0, .ref h0)] := hl
  refine lv_aload_n hx hb dX5_init_0 rfl (lv_at hl 0 rfl) ?_
  refine W.objInit hx hb hown (hts _ (wAt_in (p := 4066) (w := .methodLink RX5 1 objectInit) (by decide +kernel))) (hts _ (wAt_in (p := 1022) (w := .instanceMethod objectInit) (by decide +kernel))) (hts _ (wAt_in (p := 1023) (w := .code objectInit ⟨#[0xb1]⟩ 1 none) (by decide +kernel))) rfl (by rw [hml]; exact hl.1) rfl dX5_init_1 (Nat.le_of_ble_eq_true rfl) (Nat.le_of_ble_eq_true rfl) ?_
  refine W.eq (g2 := F0 m 4 ls []) rfl ?_
  refine lv_aload_n hx hb dX5_init_4 rfl (lv_at hl 0 rfl) ?_
  refine lv_bipush (v := 58) hx hb dX5_init_5 (by decide) ?_
  refine va_newa (atype := .int) (n := 58) (N' := 58) (a0 := (58, .inl (fun _ => 0))) hx hb (hts _ (wAt_in (p := 1095) (w := .arrayClass .int) (by decide +kernel))) rfl hK hP hD hS hA (fun _ => rfl) (by decide) (by decide) (by decide) (show 0 + 1 ≤ 9 by decide) (show 0 + 58 ≤ 359 by decide) dX5_init_7 (fun q0 cB H hK2 hP hD hS => ?_)
  have e9 := (cA_eq hK2).symm
  subst e9
  refine va_putF (D := (dC, dI)) (ci := 4) (v := .ref q0) (ty := .array .int) (own := RX5) (ref := "LeansAgainstReasonModel") (C := RX5) (T := TX5) (N := 14) hx hb hts (wu_all 4 (by decide)) tyX5 tyX5_ok nmX5 hown hK hP hD hS 0 rfl rfl 0 (by decide) (hts _ (wAt_in (p := 4067) (w := .fieldLink RX5 9 "LeansAgainstReasonModel" "s" "[I") (by decide +kernel))) (fun _ h9 => h9) rfl hin rfl (by decide +kernel) rfl rfl (Nat.le_of_ble_eq_true rfl) dX5_init_9 (fun H locs hP hD hS => ?_)
  have hP : va_P (dC, dI) vwC [(h0, .inr (4, [.ref q0, .null, .null, .null, .null, .int 0, .null, .null, .null, .int 0, .int 0, .int 0, .null, .int 0])), (q0, .inl (cA, (58, .inl (fun _ => 0))))] H := hP
  have hD : va_D A [(h0, .inr (4, [.ref q0, .null, .null, .null, .null, .int 0, .null, .null, .null, .int 0, .int 0, .int 0, .null, .int 0])), (q0, .inl (cA, (58, .inl (fun _ => 0))))] := hD
  refine lv_aload_n hx hb dX5_init_12 rfl (lv_at hl 0 rfl) ?_
  refine lv_bipush (v := 58) hx hb dX5_init_13 (by decide) ?_
  refine va_newa (atype := .int) (n := 58) (N' := 58) (a0 := (58, .inl (fun _ => 0))) hx hb (hts _ (wAt_in (p := 1095) (w := .arrayClass .int) (by decide +kernel))) rfl hK hP hD hS hA (fun _ => rfl) (by decide) (by decide) (by decide) (show 1 + 1 ≤ 9 by decide) (show 58 + 58 ≤ 359 by decide) dX5_init_15 (fun q1 cB H hK2 hP hD hS => ?_)
  have e9 := (cA_eq hK2).symm
  subst e9
  refine va_putF (D := (dC, dI)) (ci := 4) (v := .ref q1) (ty := .array .int) (own := RX5) (ref := "LeansAgainstReasonModel") (C := RX5) (T := TX5) (N := 14) hx hb hts (wu_all 4 (by decide)) tyX5 tyX5_ok nmX5 hown hK hP hD hS 0 rfl rfl 1 (by decide) (hts _ (wAt_in (p := 4068) (w := .fieldLink RX5 13 "LeansAgainstReasonModel" "m" "[I") (by decide +kernel))) (fun _ h9 => h9) rfl hin rfl (by decide +kernel) rfl rfl (Nat.le_of_ble_eq_true rfl) dX5_init_17 (fun H locs hP hD hS => ?_)
  have hP : va_P (dC, dI) vwC [(h0, .inr (4, [.ref q0, .ref q1, .null, .null, .null, .int 0, .null, .null, .null, .int 0, .int 0, .int 0, .null, .int 0])), (q0, .inl (cA, (58, .inl (fun _ => 0)))), (q1, .inl (cA, (58, .inl (fun _ => 0))))] H := hP
  have hD : va_D A [(h0, .inr (4, [.ref q0, .ref q1, .null, .null, .null, .int 0, .null, .null, .null, .int 0, .int 0, .int 0, .null, .int 0])), (q0, .inl (cA, (58, .inl (fun _ => 0)))), (q1, .inl (cA, (58, .inl (fun _ => 0))))] := hD
  refine lv_aload_n hx hb dX5_init_20 rfl (lv_at hl 0 rfl) ?_
  refine lv_bipush (v := 58) hx hb dX5_init_21 (by decide) ?_
  refine va_newa (atype := .int) (n := 58) (N' := 58) (a0 := (58, .inl (fun _ => 0))) hx hb (hts _ (wAt_in (p := 1095) (w := .arrayClass .int) (by decide +kernel))) rfl hK hP hD hS hA (fun _ => rfl) (by decide) (by decide) (by decide) (show 2 + 1 ≤ 9 by decide) (show 116 + 58 ≤ 359 by decide) dX5_init_23 (fun q2 cB H hK2 hP hD hS => ?_)
  have e9 := (cA_eq hK2).symm
  subst e9
  refine va_putF (D := (dC, dI)) (ci := 4) (v := .ref q2) (ty := .array .int) (own := RX5) (ref := "LeansAgainstReasonModel") (C := RX5) (T := TX5) (N := 14) hx hb hts (wu_all 4 (by decide)) tyX5 tyX5_ok nmX5 hown hK hP hD hS 0 rfl rfl 2 (by decide) (hts _ (wAt_in (p := 4069) (w := .fieldLink RX5 16 "LeansAgainstReasonModel" "image" "[I") (by decide +kernel))) (fun _ h9 => h9) rfl hin rfl (by decide +kernel) rfl rfl (Nat.le_of_ble_eq_true rfl) dX5_init_25 (fun H locs hP hD hS => ?_)
  have hP : va_P (dC, dI) vwC [(h0, .inr (4, [.ref q0, .ref q1, .ref q2, .null, .null, .int 0, .null, .null, .null, .int 0, .int 0, .int 0, .null, .int 0])), (q0, .inl (cA, (58, .inl (fun _ => 0)))), (q1, .inl (cA, (58, .inl (fun _ => 0)))), (q2, .inl (cA, (58, .inl (fun _ => 0))))] H := hP
  have hD : va_D A [(h0, .inr (4, [.ref q0, .ref q1, .ref q2, .null, .null, .int 0, .null, .null, .null, .int 0, .int 0, .int 0, .null, .int 0])), (q0, .inl (cA, (58, .inl (fun _ => 0)))), (q1, .inl (cA, (58, .inl (fun _ => 0)))), (q2, .inl (cA, (58, .inl (fun _ => 0))))] := hD
  refine lv_aload_n hx hb dX5_init_28 rfl (lv_at hl 0 rfl) ?_
  refine lv_bipush (v := 58) hx hb dX5_init_29 (by decide) ?_
  refine va_newa (atype := .int) (n := 58) (N' := 58) (a0 := (58, .inl (fun _ => 0))) hx hb (hts _ (wAt_in (p := 1095) (w := .arrayClass .int) (by decide +kernel))) rfl hK hP hD hS hA (fun _ => rfl) (by decide) (by decide) (by decide) (show 3 + 1 ≤ 9 by decide) (show 174 + 58 ≤ 359 by decide) dX5_init_31 (fun q3 cB H hK2 hP hD hS => ?_)
  have e9 := (cA_eq hK2).symm
  subst e9
  refine va_putF (D := (dC, dI)) (ci := 4) (v := .ref q3) (ty := .array .int) (own := RX5) (ref := "LeansAgainstReasonModel") (C := RX5) (T := TX5) (N := 14) hx hb hts (wu_all 4 (by decide)) tyX5 tyX5_ok nmX5 hown hK hP hD hS 0 rfl rfl 3 (by decide) (hts _ (wAt_in (p := 4070) (w := .fieldLink RX5 19 "LeansAgainstReasonModel" "was" "[I") (by decide +kernel))) (fun _ h9 => h9) rfl hin rfl (by decide +kernel) rfl rfl (Nat.le_of_ble_eq_true rfl) dX5_init_33 (fun H locs hP hD hS => ?_)
  have hP : va_P (dC, dI) vwC [(h0, .inr (4, [.ref q0, .ref q1, .ref q2, .ref q3, .null, .int 0, .null, .null, .null, .int 0, .int 0, .int 0, .null, .int 0])), (q0, .inl (cA, (58, .inl (fun _ => 0)))), (q1, .inl (cA, (58, .inl (fun _ => 0)))), (q2, .inl (cA, (58, .inl (fun _ => 0)))), (q3, .inl (cA, (58, .inl (fun _ => 0))))] H := hP
  have hD : va_D A [(h0, .inr (4, [.ref q0, .ref q1, .ref q2, .ref q3, .null, .int 0, .null, .null, .null, .int 0, .int 0, .int 0, .null, .int 0])), (q0, .inl (cA, (58, .inl (fun _ => 0)))), (q1, .inl (cA, (58, .inl (fun _ => 0)))), (q2, .inl (cA, (58, .inl (fun _ => 0)))), (q3, .inl (cA, (58, .inl (fun _ => 0))))] := hD
  refine lv_aload_n hx hb dX5_init_36 rfl (lv_at hl 0 rfl) ?_
  refine lv_iconst (v := 5) hx hb dX5_init_37 (by decide) ?_
  refine va_newa (atype := .int) (n := 5) (N' := 5) (a0 := (5, .inl (fun _ => 0))) hx hb (hts _ (wAt_in (p := 1095) (w := .arrayClass .int) (by decide +kernel))) rfl hK hP hD hS hA (fun _ => rfl) (by decide) (by decide) (by decide) (show 4 + 1 ≤ 9 by decide) (show 232 + 5 ≤ 359 by decide) dX5_init_38 (fun q4 cB H hK2 hP hD hS => ?_)
  have e9 := (cA_eq hK2).symm
  subst e9
  refine va_putF (D := (dC, dI)) (ci := 4) (v := .ref q4) (ty := .array .int) (own := RX5) (ref := "LeansAgainstReasonModel") (C := RX5) (T := TX5) (N := 14) hx hb hts (wu_all 4 (by decide)) tyX5 tyX5_ok nmX5 hown hK hP hD hS 0 rfl rfl 4 (by decide) (hts _ (wAt_in (p := 4071) (w := .fieldLink RX5 22 "LeansAgainstReasonModel" "less" "[I") (by decide +kernel))) (fun _ h9 => h9) rfl hin rfl (by decide +kernel) rfl rfl (Nat.le_of_ble_eq_true rfl) dX5_init_40 (fun H locs hP hD hS => ?_)
  have hP : va_P (dC, dI) vwC [(h0, .inr (4, [.ref q0, .ref q1, .ref q2, .ref q3, .ref q4, .int 0, .null, .null, .null, .int 0, .int 0, .int 0, .null, .int 0])), (q0, .inl (cA, (58, .inl (fun _ => 0)))), (q1, .inl (cA, (58, .inl (fun _ => 0)))), (q2, .inl (cA, (58, .inl (fun _ => 0)))), (q3, .inl (cA, (58, .inl (fun _ => 0)))), (q4, .inl (cA, (5, .inl (fun _ => 0))))] H := hP
  have hD : va_D A [(h0, .inr (4, [.ref q0, .ref q1, .ref q2, .ref q3, .ref q4, .int 0, .null, .null, .null, .int 0, .int 0, .int 0, .null, .int 0])), (q0, .inl (cA, (58, .inl (fun _ => 0)))), (q1, .inl (cA, (58, .inl (fun _ => 0)))), (q2, .inl (cA, (58, .inl (fun _ => 0)))), (q3, .inl (cA, (58, .inl (fun _ => 0)))), (q4, .inl (cA, (5, .inl (fun _ => 0))))] := hD
  refine lv_aload_n hx hb dX5_init_43 rfl (lv_at hl 0 rfl) ?_
  refine lv_bipush (v := 96) hx hb dX5_init_44 (by decide) ?_
  refine va_newa (atype := .int) (n := 96) (N' := 96) (a0 := (96, .inl (fun _ => 0))) hx hb (hts _ (wAt_in (p := 1095) (w := .arrayClass .int) (by decide +kernel))) rfl hK hP hD hS hA (fun _ => rfl) (by decide) (by decide) (by decide) (show 5 + 1 ≤ 9 by decide) (show 237 + 96 ≤ 359 by decide) dX5_init_46 (fun q5 cB H hK2 hP hD hS => ?_)
  have e9 := (cA_eq hK2).symm
  subst e9
  refine va_putF (D := (dC, dI)) (ci := 4) (v := .ref q5) (ty := .array .int) (own := RX5) (ref := "LeansAgainstReasonModel") (C := RX5) (T := TX5) (N := 14) hx hb hts (wu_all 4 (by decide)) tyX5 tyX5_ok nmX5 hown hK hP hD hS 0 rfl rfl 6 (by decide) (hts _ (wAt_in (p := 4073) (w := .fieldLink RX5 25 "LeansAgainstReasonModel" "letters" "[I") (by decide +kernel))) (fun _ h9 => h9) rfl hin rfl (by decide +kernel) rfl rfl (Nat.le_of_ble_eq_true rfl) dX5_init_48 (fun H locs hP hD hS => ?_)
  have hP : va_P (dC, dI) vwC [(h0, .inr (4, [.ref q0, .ref q1, .ref q2, .ref q3, .ref q4, .int 0, .ref q5, .null, .null, .int 0, .int 0, .int 0, .null, .int 0])), (q0, .inl (cA, (58, .inl (fun _ => 0)))), (q1, .inl (cA, (58, .inl (fun _ => 0)))), (q2, .inl (cA, (58, .inl (fun _ => 0)))), (q3, .inl (cA, (58, .inl (fun _ => 0)))), (q4, .inl (cA, (5, .inl (fun _ => 0)))), (q5, .inl (cA, (96, .inl (fun _ => 0))))] H := hP
  have hD : va_D A [(h0, .inr (4, [.ref q0, .ref q1, .ref q2, .ref q3, .ref q4, .int 0, .ref q5, .null, .null, .int 0, .int 0, .int 0, .null, .int 0])), (q0, .inl (cA, (58, .inl (fun _ => 0)))), (q1, .inl (cA, (58, .inl (fun _ => 0)))), (q2, .inl (cA, (58, .inl (fun _ => 0)))), (q3, .inl (cA, (58, .inl (fun _ => 0)))), (q4, .inl (cA, (5, .inl (fun _ => 0)))), (q5, .inl (cA, (96, .inl (fun _ => 0))))] := hD
  refine lv_aload_n hx hb dX5_init_51 rfl (lv_at hl 0 rfl) ?_
  refine lv_bipush (v := 16) hx hb dX5_init_52 (by decide) ?_
  refine va_newa (atype := .int) (n := 16) (N' := 16) (a0 := (16, .inl (fun _ => 0))) hx hb (hts _ (wAt_in (p := 1095) (w := .arrayClass .int) (by decide +kernel))) rfl hK hP hD hS hA (fun _ => rfl) (by decide) (by decide) (by decide) (show 6 + 1 ≤ 9 by decide) (show 333 + 16 ≤ 359 by decide) dX5_init_54 (fun q6 cB H hK2 hP hD hS => ?_)
  have e9 := (cA_eq hK2).symm
  subst e9
  refine va_putF (D := (dC, dI)) (ci := 4) (v := .ref q6) (ty := .array .int) (own := RX5) (ref := "LeansAgainstReasonModel") (C := RX5) (T := TX5) (N := 14) hx hb hts (wu_all 4 (by decide)) tyX5 tyX5_ok nmX5 hown hK hP hD hS 0 rfl rfl 7 (by decide) (hts _ (wAt_in (p := 4074) (w := .fieldLink RX5 28 "LeansAgainstReasonModel" "row" "[I") (by decide +kernel))) (fun _ h9 => h9) rfl hin rfl (by decide +kernel) rfl rfl (Nat.le_of_ble_eq_true rfl) dX5_init_56 (fun H locs hP hD hS => ?_)
  have hP : va_P (dC, dI) vwC [(h0, .inr (4, [.ref q0, .ref q1, .ref q2, .ref q3, .ref q4, .int 0, .ref q5, .ref q6, .null, .int 0, .int 0, .int 0, .null, .int 0])), (q0, .inl (cA, (58, .inl (fun _ => 0)))), (q1, .inl (cA, (58, .inl (fun _ => 0)))), (q2, .inl (cA, (58, .inl (fun _ => 0)))), (q3, .inl (cA, (58, .inl (fun _ => 0)))), (q4, .inl (cA, (5, .inl (fun _ => 0)))), (q5, .inl (cA, (96, .inl (fun _ => 0)))), (q6, .inl (cA, (16, .inl (fun _ => 0))))] H := hP
  have hD : va_D A [(h0, .inr (4, [.ref q0, .ref q1, .ref q2, .ref q3, .ref q4, .int 0, .ref q5, .ref q6, .null, .int 0, .int 0, .int 0, .null, .int 0])), (q0, .inl (cA, (58, .inl (fun _ => 0)))), (q1, .inl (cA, (58, .inl (fun _ => 0)))), (q2, .inl (cA, (58, .inl (fun _ => 0)))), (q3, .inl (cA, (58, .inl (fun _ => 0)))), (q4, .inl (cA, (5, .inl (fun _ => 0)))), (q5, .inl (cA, (96, .inl (fun _ => 0)))), (q6, .inl (cA, (16, .inl (fun _ => 0))))] := hD
  refine lv_aload_n hx hb dX5_init_59 rfl (lv_at hl 0 rfl) ?_
  refine lv_bipush (v := 7) hx hb dX5_init_60 (by decide) ?_
  refine va_newa (atype := .int) (n := 7) (N' := 7) (a0 := (7, .inl (fun _ => 0))) hx hb (hts _ (wAt_in (p := 1095) (w := .arrayClass .int) (by decide +kernel))) rfl hK hP hD hS hA (fun _ => rfl) (by decide) (by decide) (by decide) (show 7 + 1 ≤ 9 by decide) (show 349 + 7 ≤ 359 by decide) dX5_init_62 (fun q7 cB H hK2 hP hD hS => ?_)
  have e9 := (cA_eq hK2).symm
  subst e9
  refine va_putF (D := (dC, dI)) (ci := 4) (v := .ref q7) (ty := .array .int) (own := RX5) (ref := "LeansAgainstReasonModel") (C := RX5) (T := TX5) (N := 14) hx hb hts (wu_all 4 (by decide)) tyX5 tyX5_ok nmX5 hown hK hP hD hS 0 rfl rfl 8 (by decide) (hts _ (wAt_in (p := 4075) (w := .fieldLink RX5 31 "LeansAgainstReasonModel" "refused" "[I") (by decide +kernel))) (fun _ h9 => h9) rfl hin rfl (by decide +kernel) rfl rfl (Nat.le_of_ble_eq_true rfl) dX5_init_64 (fun H locs hP hD hS => ?_)
  have hP : va_P (dC, dI) vwC [(h0, .inr (4, [.ref q0, .ref q1, .ref q2, .ref q3, .ref q4, .int 0, .ref q5, .ref q6, .ref q7, .int 0, .int 0, .int 0, .null, .int 0])), (q0, .inl (cA, (58, .inl (fun _ => 0)))), (q1, .inl (cA, (58, .inl (fun _ => 0)))), (q2, .inl (cA, (58, .inl (fun _ => 0)))), (q3, .inl (cA, (58, .inl (fun _ => 0)))), (q4, .inl (cA, (5, .inl (fun _ => 0)))), (q5, .inl (cA, (96, .inl (fun _ => 0)))), (q6, .inl (cA, (16, .inl (fun _ => 0)))), (q7, .inl (cA, (7, .inl (fun _ => 0))))] H := hP
  have hD : va_D A [(h0, .inr (4, [.ref q0, .ref q1, .ref q2, .ref q3, .ref q4, .int 0, .ref q5, .ref q6, .ref q7, .int 0, .int 0, .int 0, .null, .int 0])), (q0, .inl (cA, (58, .inl (fun _ => 0)))), (q1, .inl (cA, (58, .inl (fun _ => 0)))), (q2, .inl (cA, (58, .inl (fun _ => 0)))), (q3, .inl (cA, (58, .inl (fun _ => 0)))), (q4, .inl (cA, (5, .inl (fun _ => 0)))), (q5, .inl (cA, (96, .inl (fun _ => 0)))), (q6, .inl (cA, (16, .inl (fun _ => 0)))), (q7, .inl (cA, (7, .inl (fun _ => 0))))] := hD
  refine lv_aload_n hx hb dX5_init_67 rfl (lv_at hl 0 rfl) ?_
  refine lv_iconst (v := 3) hx hb dX5_init_68 (by decide) ?_
  refine va_newa (atype := .int) (n := 3) (N' := 3) (a0 := (3, .inl (fun _ => 0))) hx hb (hts _ (wAt_in (p := 1095) (w := .arrayClass .int) (by decide +kernel))) rfl hK hP hD hS hA (fun _ => rfl) (by decide) (by decide) (by decide) (show 8 + 1 ≤ 9 by decide) (show 356 + 3 ≤ 359 by decide) dX5_init_69 (fun q8 cB H hK2 hP hD hS => ?_)
  have e9 := (cA_eq hK2).symm
  subst e9
  refine va_putF (D := (dC, dI)) (ci := 4) (v := .ref q8) (ty := .array .int) (own := RX5) (ref := "LeansAgainstReasonModel") (C := RX5) (T := TX5) (N := 14) hx hb hts (wu_all 4 (by decide)) tyX5 tyX5_ok nmX5 hown hK hP hD hS 0 rfl rfl 12 (by decide) (hts _ (wAt_in (p := 4079) (w := .fieldLink RX5 34 "LeansAgainstReasonModel" "numbers" "[I") (by decide +kernel))) (fun _ h9 => h9) rfl hin rfl (by decide +kernel) rfl rfl (Nat.le_of_ble_eq_true rfl) dX5_init_71 (fun H locs hP hD hS => ?_)
  have hP : va_P (dC, dI) vwC [(h0, .inr (4, [.ref q0, .ref q1, .ref q2, .ref q3, .ref q4, .int 0, .ref q5, .ref q6, .ref q7, .int 0, .int 0, .int 0, .ref q8, .int 0])), (q0, .inl (cA, (58, .inl (fun _ => 0)))), (q1, .inl (cA, (58, .inl (fun _ => 0)))), (q2, .inl (cA, (58, .inl (fun _ => 0)))), (q3, .inl (cA, (58, .inl (fun _ => 0)))), (q4, .inl (cA, (5, .inl (fun _ => 0)))), (q5, .inl (cA, (96, .inl (fun _ => 0)))), (q6, .inl (cA, (16, .inl (fun _ => 0)))), (q7, .inl (cA, (7, .inl (fun _ => 0)))), (q8, .inl (cA, (3, .inl (fun _ => 0))))] H := hP
  have hD : va_D A [(h0, .inr (4, [.ref q0, .ref q1, .ref q2, .ref q3, .ref q4, .int 0, .ref q5, .ref q6, .ref q7, .int 0, .int 0, .int 0, .ref q8, .int 0])), (q0, .inl (cA, (58, .inl (fun _ => 0)))), (q1, .inl (cA, (58, .inl (fun _ => 0)))), (q2, .inl (cA, (58, .inl (fun _ => 0)))), (q3, .inl (cA, (58, .inl (fun _ => 0)))), (q4, .inl (cA, (5, .inl (fun _ => 0)))), (q5, .inl (cA, (96, .inl (fun _ => 0)))), (q6, .inl (cA, (16, .inl (fun _ => 0)))), (q7, .inl (cA, (7, .inl (fun _ => 0)))), (q8, .inl (cA, (3, .inl (fun _ => 0))))] := hD
  refine W.widen (k := 9) (n := 359) (by decide) (by decide) ?_
  refine W.vret hx hb hr (fun t ht hW => ⟨⟨(fun i => ([q0, q1, q2, q3, q4, q5, q6, q7, q8] : List Nat).getD i 0), rfl, trivial, by rw [ht]; exact hP, hD⟩, hS.F ht⟩) hS.2.2 dX5_init_74
end
section
-- ===== end of PART A; then your names; then what follows =====
/-! THE CLAIM OUT OF ONE WALK OF THE LAW'S BODY. Your part is whole_start (and what it stands on); all else here is the same for every law, but numbers. -/
def R_law : String := "LeansAgainstReasonLaw"
def lw_P (b : Addr) (xs : List Int32) (args : Array Value) (s : State) : Prop := args = #[.ref b] ∧ s.IntsAt b xs ∧ xs.length ≤ 3072 ∧ (Jvm.Cond.and given_1 narrow_1).before args s = true
def lw_Q (_ : Array Value) (s : State) (o : Outcome) (t : State) : Prop := o = .returned (some (.int 1)) ∧ Framed s o t [] 44 755
def lw_Z (below : List Frame) (a : Array Value) (s : State) : State → Prop := fun t => ∃ o, t.status = .running ∧ Ended t below o ∧ lw_Q a s o t
/-- the law's own end, with 1 on the stack, nothing written that was there before, its room as the claim has it -/
theorem lw_ret {p : Program} {l : Launch} {e : Env} {s : State} {m : MethodId} {below : List Frame} {meth : Method} {c : Code} {b : Nat} (hx : p.tables.exec = Jvm.exec) (hb : c.code = code) (hr : meth.sig.returnType = ret) (hlocks : meth.locks = false) {pc : Nat} {H : Heap} {ls : Array Slot} (hdg : decode code pc = .ok (.ireturn, 1)) : W p l e room_1 s m #[Value.ref b] below meth c H [] 44 755 (lw_Z below #[Value.ref b] s) (F0 m pc ls [.int 1]) := by
  intro T hT X
  obtain ⟨fs, hret, hrun, hended, hW, hframe⟩ := X.leave (v := some (.int 1)) (hlocks := hlocks) (fun h => by rw [hr] at h; cases h)
  have hmeth' : T.vm.method? m = some meth := X.method'
  refine ⟨T.setFrames fs, ?_, .returned (some (.int 1)), hrun, hended, rfl, ⟨_, rfl⟩, hW, hframe⟩
  jvm_step X.here [X.here.top, hx, hb, hdg, hmeth', hr, ret, narrow_b1]
  (try refine ⟨rfl, ?_⟩); (try refine ⟨rfl, ?_⟩)
  first | (intro acts; rw [hret _ acts rfl rfl rfl]) | rw [hret _ _ rfl rfl rfl]
  exact Steps.refl _
/-- what holds at the law's entry: the machine, the code, the tables' words (any of lw_tbl by 'hts w (by decide +kernel)'), the script of L ints xs at the cell b, what the Statement gives of the start (any of its parts by flat_of_before) -/
def lw_At (p : Program) (s : State) (m : MethodId) (meth : Method) (c : Code) (b L : Nat) (xs : Nat → Int32) : Prop :=
  p.tables.exec = Jvm.exec ∧ c.code = code ∧ meth.sig.returnType = ret ∧ c.maxLocals = 4 ∧ s.vm.findClass R_law = some m.cls ∧ (∀ w ∈ lw_tbl, w.before #[Value.ref b] s = true) ∧ va_X b L xs s s.heap ∧ b < s.heap.size ∧ meth.locks = false ∧ (Jvm.Cond.and given_1 narrow_1).before #[Value.ref b] s = true

/-! the start: what the Statement gives of the world -/
def tmS (i : Nat) : Term := Term.string RX0 (strI.getD i 0)
def fl1 : List Cond := flatC (Jvm.Cond.and given_1 narrow_1)
set_option maxRecDepth 100000 in
theorem st_1 : (List.range 8).all (fun i => decide (Cond.exactly (tmS i) "java/lang/String" ∈ fl1)) = true := by decide +kernel
set_option maxRecDepth 100000 in
theorem st_2 : (List.range 8).all (fun i => decide (Cond.eq (.field (tmS i) "java/lang/String" "coder" "B") (.int 0) ∈ fl1)) = true := by decide +kernel
set_option maxRecDepth 100000 in
theorem st_3 : (List.range 8).all (fun i => decide (Cond.arrayOf (.field (tmS i) "java/lang/String" "value" "[B") .byte ∈ fl1)) = true := by decide +kernel
set_option maxRecDepth 100000 in
theorem st_4 : (List.range 8).all (fun i => decide (Cond.eq (.length (.field (tmS i) "java/lang/String" "value" "[B")) (.int (Int32.ofNat (strL.getD i 0))) ∈ fl1)) = true := by decide +kernel
set_option maxRecDepth 100000 in
theorem st_5 : (List.range 8).all (fun i => (List.range (strL.getD i 0)).all (fun j => decide (Cond.eq (.elem (.field (tmS i) "java/lang/String" "value" "[B") (.int (Int32.ofNat j))) (.int ((strB32.getD i []).getD j 0)) ∈ fl1))) = true := by decide +kernel
set_option maxRecDepth 100000 in
theorem st_6 : (List.range 8).all (fun i => (List.range 8).all (fun j => decide (i = j) || decide (Cond.not (Cond.eq (tmS i) (tmS j)) ∈ fl1) || decide (Cond.not (Cond.eq (tmS j) (tmS i)) ∈ fl1))) = true := by decide +kernel
set_option maxRecDepth 100000 in
theorem st_7 : (decide (Cond.eq (.static "java/lang/String" "COMPACT_STRINGS" "Z") (.int 1) ∈ fl1) && decide (Cond.isRef (.static "jdk/internal/util/Preconditions" "SIOOBE_FORMATTER" "Ljava/util/function/BiFunction;") ∈ fl1)) = true := by decide +kernel
/-- a place decided for all below a number -/
theorem rng {n : Nat} {f : Nat → Bool} (h : (List.range n).all f = true) {i : Nat} (hi : i < n) : f i = true := List.all_eq_true.mp h i (List.mem_range.mpr hi)

set_option maxHeartbeats 4000000 in
set_option maxRecDepth 100000 in
theorem start_env {p : Program} {s : State} {m : MethodId} {meth : Method} {c : Code} {b L : Nat} {xs : Nat → Int32} (C0 : lw_At p s m meth c b L xs) : ∃ (dC : Nat → ClassId) (dI : Nat → Nat → Nat) (cA : ClassId) (adK adV : Nat → Nat) (vF : Value), okF vF ∧ va_K (dC, dI) vwC [(cA, .int)] s ∧
    vk_S 8 strL strB32 adK adV (fun q : Nat => s.heap.size ≤ q) s s.heap ∧ (∀ k, k < 8 → vk_R RX0 (strI.getD k 0) (strX.getD k "") (adK k) s) ∧
    va_Z "java/lang/String" "COMPACT_STRINGS" "Z" (.int 1) (fun q : Nat => s.heap.size ≤ q) s s.heap ∧ va_Z "jdk/internal/util/Preconditions" "SIOOBE_FORMATTER" "Ljava/util/function/BiFunction;" vF (fun q : Nat => s.heap.size ≤ q) s s.heap ∧
    (∀ q ∈ nsT, va_Nw (.methodLinkNest (cN q.1) q.2.1 (mN q.2.2) RX4) s) := by
  obtain ⟨hx, hb, hr, hml, hown, hts, hX, hbl, hlocks, hgv⟩ := C0
  have hfl : ∀ w ∈ fl1, w.before #[Value.ref b] s = true := flat_of_before _ hgv
  have hts' : ∀ w ∈ lwg, w.before #[Value.ref b] s = true := fun w hw => hts w (lwg_in hw)
  have hA : ∀ a : Nat, a < s.heap.size → ¬ (fun q : Nat => s.heap.size ≤ q) a := fun a h => Nat.not_le.mpr h
  obtain ⟨c0, iS0, hKn0⟩ := u_known (C := RX0) (T := TX0) (N := 2) (n := 2) hts' (wu_all 0 (by decide)) (hts' _ (wAt_in (p := 1108) (w := .instantiable RX0 2) (by decide +kernel)))
  obtain ⟨c1, iS1, hKn1⟩ := u_known (C := RX1) (T := TX1) (N := 3) (n := 3) hts' (wu_all 1 (by decide)) (hts' _ (wAt_in (p := 1025) (w := .instantiable RX1 3) (by decide +kernel)))
  obtain ⟨c2, iS2, hKn2⟩ := u_known (C := RX2) (T := TX2) (N := 12) (n := 12) hts' (wu_all 2 (by decide)) (hts' _ (wAt_in (p := 1031) (w := .instantiable RX2 12) (by decide +kernel)))
  obtain ⟨c3, iS3, hKn3⟩ := u_known (C := RX4) (T := TX4) (N := 8) (n := 8) hts' (wu_all 3 (by decide)) (hts' _ (wAt_in (p := 1017) (w := .instantiable RX4 8) (by decide +kernel)))
  obtain ⟨c4, iS4, hKn4⟩ := u_known (C := RX5) (T := TX5) (N := 14) (n := 14) hts' (wu_all 4 (by decide)) (hts' _ (wAt_in (p := 4062) (w := .instantiable RX5 14) (by decide +kernel)))
  obtain ⟨dC, dI, hKc⟩ : ∃ (dC : Nat → ClassId) (dI : Nat → Nat → Nat), ∀ (k : Nat) (q : vw_C), vwC[k]? = some q → u_Kn s q.1 q.2.1 q.2.2 (dC k) (dI k) := by
    refine ⟨fun k => match k with | 0 => c0 | 1 => c1 | 2 => c2 | 3 => c3 | _ => c4, fun k => match k with | 0 => iS0 | 1 => iS1 | 2 => iS2 | 3 => iS3 | _ => iS4, ?_⟩
    intro k q hq
    match k, hq with
    | 0, hq => cases hq; exact hKn0
    | 1, hq => cases hq; exact hKn1
    | 2, hq => cases hq; exact hKn2
    | 3, hq => cases hq; exact hKn3
    | 4, hq => cases hq; exact hKn4
    | k + 5, hq => simp [vwC] at hq
  have harr : (Cond.arrayClass .int).before #[Value.ref b] s = true := hts' _ (wAt_in (p := 1095) (w := .arrayClass .int) (by decide +kernel))
  obtain ⟨cA, kA, comp, hn1, hn2, hn3⟩ := Cond.arrayClass_spec harr
  have hK : va_K (dC, dI) vwC [(cA, .int)] s := ⟨hKc, fun k q hq => by
    match k, hq with
    | 0, hq => cases hq; exact ⟨fun n z => ⟨fun k h => (by cases h), kA, hn2, comp, hn3⟩, hn1⟩
    | k + 1, hq => simp at hq⟩
  have h8 : ∀ i, i < 8 → strL.getD i 0 < 100 := by decide +kernel
  obtain ⟨adK, adV, hSt, hEv⟩ := vk_Sof (args := #[Value.ref b]) (s := s) (N := 8) (tm := tmS) (len := strL) (byt := strB32) (A := fun q : Nat => s.heap.size ≤ q) (fun i hi => Nat.lt_trans (h8 i hi) (by decide))
    (fun i hi => hfl _ (of_decide_eq_true (rng st_1 hi))) (fun i hi => hfl _ (of_decide_eq_true (rng st_2 hi))) (fun i hi => hfl _ (of_decide_eq_true (rng st_3 hi))) (fun i hi => hfl _ (of_decide_eq_true (rng st_4 hi)))
    (fun i hi j hj => hfl _ (of_decide_eq_true (rng (rng st_5 hi) hj)))
    (fun i j hi hj hij => by
      have h9 := rng (rng st_6 hi) hj
      simp only [Bool.or_eq_true, decide_eq_true_eq] at h9
      rcases h9 with (h9 | h9) | h9
      · exact absurd h9 hij
      · exact Or.inl (hfl _ h9)
      · exact Or.inr (hfl _ h9)) hA
  have h7 := st_7
  rw [Bool.and_eq_true] at h7
  have hZ1 := va_Zof (A := fun q : Nat => s.heap.size ≤ q) (hts _ (wRaw_in (p := 1179) (w := .laysStatic "java/lang/String" "COMPACT_STRINGS" "Z") (by decide +kernel))) (hts _ (wRaw_in (p := 1007) (w := .initialized "java/lang/String") (by decide +kernel))) (va_eqt (hfl _ (of_decide_eq_true h7.1))) hA
  have hZ2 := va_Zqof (A := fun q : Nat => s.heap.size ≤ q) (hts _ (wRaw_in (p := 1204) (w := .laysStatic "jdk/internal/util/Preconditions" "SIOOBE_FORMATTER" "Ljava/util/function/BiFunction;") (by decide +kernel))) (hts _ (wRaw_in (p := 1009) (w := .initialized "jdk/internal/util/Preconditions") (by decide +kernel))) (hfl _ (of_decide_eq_true h7.2)) hA
  obtain ⟨vF, hF, hZ2⟩ : ∃ vF : Value, okF vF ∧ va_Z "jdk/internal/util/Preconditions" "SIOOBE_FORMATTER" "Ljava/util/function/BiFunction;" vF (fun q : Nat => s.heap.size ≤ q) s s.heap := by
    rcases hZ2 with h | ⟨t, h⟩
    · exact ⟨_, Or.inl rfl, h⟩
    · exact ⟨_, Or.inr ⟨t, rfl⟩, h⟩
  refine ⟨dC, dI, cA, adK, adV, vF, hF, hK, hSt, fun k hk => vk_R.of (hts _ (wRaw_in (rng wStr_ok hk))) (hEv k hk), hZ1, hZ2, ?_⟩
  have hn := wNs
  rw [Bool.and_eq_true, Bool.and_eq_true, Bool.and_eq_true] at hn
  intro q hq
  have e : nsT = [(1, (124, k_X4_power)), (1, (128, k_X4_has)), (2, (61, k_X4_isPlace)), (2, (118, k_X4_has))] := by decide +kernel
  rw [e] at hq
  rcases List.mem_cons.mp hq with rfl | hq
  · exact va_Nw.of rfl (hts _ (wRaw_in hn.1.1.1))
  · rcases List.mem_cons.mp hq with rfl | hq
    · exact va_Nw.of rfl (hts _ (wRaw_in hn.1.1.2))
    · rcases List.mem_cons.mp hq with rfl | hq
      · exact va_Nw.of rfl (hts _ (wRaw_in hn.1.2))
      · rcases List.mem_cons.mp hq with rfl | hq
        · exact va_Nw.of rfl (hts _ (wRaw_in hn.2))
        · cases hq
/-- the store behind the two constructors -/
def σ0 (L : Nat) (xs : Nat → Int32) : St := fun t r j => if t = 15 then -9 else if t = 32 then (if r = 0 then (xs j).toInt else if L < 2147483648 then (L : Int) else 0) else 0
def adLs (q0 q1 : Nat) (a z : Nat → Nat) : List Nat := [q0, a 0, a 19, a 20, a 21, a 31, a 32, a 1, a 2, a 3, a 4, a 5, a 6, a 7, a 8, a 9, a 10, a 11, a 12, a 13, a 14, a 15, a 16, a 17, a 18, a 22, a 23, a 24, a 25, a 26, a 27, a 28, a 29, a 30, q1, z 0, z 1, z 2, z 3, z 4, z 5, z 6, z 7, z 8]
def adf (q0 q1 : Nat) (a z adK adV : Nat → Nat) (b : Nat) : Nat → Nat → Nat := fun t r => if t = 30 then adK r else if t = 31 then adV r else if t = 32 then b else (adLs q0 q1 a z).getD (wpos t r) 0
set_option maxHeartbeats 4000000 in
set_option maxRecDepth 100000 in
theorem wld_perm (cA : ClassId) (q0 q1 : Nat) (a z adK adV : Nat → Nat) (b L : Nat) (xs : Nat → Int32) : ([0, 1, 20, 21, 22, 32, 33, 2, 3, 4, 5, 6, 7, 8, 9, 10, 11, 12, 13, 14, 15, 16, 17, 18, 19, 23, 24, 25, 26, 27, 28, 29, 30, 31, 34, 35, 36, 37, 38, 39, 40, 41, 42, 43] : List Nat).filterMap (fun i => (cwX cA q0 a ++ cwN cA q1 z)[i]?) = wld cA (adf q0 q1 a z adK adV b) (σ0 L xs) := by rfl
set_option maxHeartbeats 4000000 in
set_option maxRecDepth 100000 in
theorem wld_permD (cA : ClassId) (q0 q1 : Nat) (a z adK adV : Nat → Nat) (b L : Nat) (xs : Nat → Int32) : ([0, 1, 20, 21, 22, 32, 33, 2, 3, 4, 5, 6, 7, 8, 9, 10, 11, 12, 13, 14, 15, 16, 17, 18, 19, 23, 24, 25, 26, 27, 28, 29, 30, 31, 34, 35, 36, 37, 38, 39, 40, 41, 42, 43] : List Nat).map (fun i => (cwX cA q0 a ++ cwN cA q1 z)[i]?) = (wld cA (adf q0 q1 a z adK adV b) (σ0 L xs)).map some := by rfl
set_option maxHeartbeats 4000000 in
set_option maxRecDepth 100000 in
/-- the whole, out of the abstract machine's run of the law's loop -/
theorem start_of (law_am : ∀ (L : Nat) (xs : Nat → Int32), L ≤ 3072 → ∃ σ', Rx k_L_law 18 [.inr (.inl (32, 0)), .inr (.inl (0, 0)), .inr (.inl (16, 0)), .inl 0] [] (σ0 L xs) = some (some (.inl 1), σ')) {p : Program} {e : Env} {s : State} {m : MethodId} {below : List Frame} {meth : Method} {c : Code} (l : Launch) {b L : Nat} {xs : Nat → Int32} (hL : L ≤ 3072) (C0 : lw_At p s m meth c b L xs) : W p l e room_1 s m #[Value.ref b] below meth c s.heap [] 0 0 (lw_Z below #[Value.ref b] s) (entryFrame m ([Value.ref b] : List Value).toArray 4) := by
  obtain ⟨dC, dI, cA, adK, adV, vF, hF, hK, eS, eR, eZ1, eZ2, eN⟩ := start_env C0
  obtain ⟨hx, hb, hr, hml, hown, hts, hX, hbl, hlocks, hgv⟩ := C0
  have hts' : ∀ w ∈ lwg, w.before #[Value.ref b] s = true := fun w hw => hts w (lwg_in hw)
  have hA : ∀ q : Nat, s.heap.size ≤ q → (fun q : Nat => s.heap.size ≤ q) q := fun _ h => h
  have hS : va_S (fun q : Nat => s.heap.size ≤ q) s.heap s.heap [] := va_S.rf
  have hP : va_P (dC, dI) vwC [] s.heap := fun k q h => by simp at h
  have hD : va_D (fun q : Nat => s.heap.size ≤ q) [] := ⟨fun i j p q h => by simp at h, fun k q h => by simp at h⟩
  have hl := lv_entry ([.ref b]) (n := 4) (Nat.le_of_ble_eq_true rfl)
  rw [lg_entry_eq]
  generalize (lg_sl ([.ref b]) ++ List.replicate (4 - (lg_sl ([.ref b])).length) Slot.unset).toArray = ls at hl ⊢
  have hl : lv_has ls 4 [(0, .ref b)] := hl
  refine va_new (ci := 3) (fs := [.null, .null, .null, .null, .int 0, .null, .int 0, .null]) (C := RX4) (T := TX4) (N := 8) hx hb hts' (wu_all 3 (by decide)) tyX4 tyX4_ok hown (hts' _ (wAt_in (p := 1016) (w := .classLink RL 7 RX4) (by decide +kernel))) (hts' _ (wAt_in (p := 1017) (w := .instantiable RX4 8) (by decide +kernel))) (hts' _ (wAt_in (p := 1001) (w := .initialized RX4) (by decide +kernel))) hK hP hD hS hA rfl (fun j hj => by rcases (show j = 0 ∨ j = 1 ∨ j = 2 ∨ j = 3 ∨ j = 4 ∨ j = 5 ∨ j = 6 ∨ j = 7 by omega) with rfl | rfl | rfl | rfl | rfl | rfl | rfl | rfl <;> rfl) (show 0 + 1 ≤ 44 by decide) (show 0 + 8 ≤ 755 by decide) dL_law_0 (fun q0 H hP hD hS => ?_)
  have hP : va_P (dC, dI) vwC ([(q0, .inr (3, [.null, .null, .null, .null, .int 0, .null, .int 0, .null]))]) H := hP
  have hD : va_D (fun q : Nat => s.heap.size ≤ q) ([(q0, .inr (3, [.null, .null, .null, .null, .int 0, .null, .int 0, .null]))]) := hD
  refine lv_dup hx hb dL_law_3 rfl ?_
  have hPc := hP.sub (ws' := [(q0, .inr (3, [.null, .null, .null, .null, .int 0, .null, .int 0, .null]))]) [0] rfl
  have hDc := hD.sub (ws' := [(q0, .inr (3, [.null, .null, .null, .null, .int 0, .null, .int 0, .null]))]) [0] (by decide) rfl
  have hFc := va_free (wc := [(q0, .inr (3, [.null, .null, .null, .null, .int 0, .null, .int 0, .null]))]) hD hS hA [0] rfl
  refine va_callv (va_runI (As := []) (rest := [.ref q0]) ⟨hx, hb, hml, hown, hts'⟩ (c_X4_init l dC dI cA q0 H.size) (cwI 0 hts' (gI (wAt_in (p := 1020) (w := .code yX4_init cX4_init 1 none) (by decide +kernel))) rfl rfl rfl (hts' _ (wAt_in (p := 1001) (w := .initialized RX4) (by decide +kernel))) (hts' _ (wAt_in (p := 1018) (w := .methodLink RL 9 yX4_init) (by decide +kernel))) (hts' _ (wAt_in (p := 1019) (w := .instanceMethod yX4_init) (by decide +kernel))) rfl (by decide +kernel) ⟨Nat.le_of_ble_eq_true rfl, Nat.le_of_ble_eq_true rfl⟩) ⟨fun a U g mk z => by obtain ⟨z0, z1, zP, zK, zD⟩ := z; exact ⟨z0, z1, zP, va_K.moved (u := U) (U := U.calling g mk a) (Vm.Alike.refl U.vm) zK, zD⟩, fun U hU hW => ⟨rfl, by rw [hU], by rw [hU]; exact hPc, va_K.moved hW.alike hK, hDc.weaken (fun _ _ _ _ => trivial)⟩⟩ rfl rfl hl.1 rfl (lv_room (Nat.le_of_ble_eq_true rfl)) dL_law_4 ⟨(show 1 + 33 ≤ 44 by decide), (show 8 + 374 ≤ 755 by decide)⟩) hS (fun x _ h => hFc x h) hFc (fun u t H1 locs ht hvm hw hB hz1 hk1 hS => ?_)
  obtain ⟨a, rfl⟩ : ∃ z, z = u := ⟨_, rfl⟩
  obtain ⟨hP1, hD1⟩ := hB
  rw [ht] at hP1
  obtain ⟨hP, hD⟩ := va_join (wr := []) (w1 := cwX cA q0 a) hP hD [0] [] rfl rfl (by decide) (by decide) hk1 hFc hP1 hD1
  generalize H1 = H at hP hS ⊢
  have hP : va_P (dC, dI) vwC (cwX cA q0 a) H := hP
  have hD : va_D (fun q : Nat => s.heap.size ≤ q) (cwX cA q0 a) := hD
  refine lv_astore_n (lv' := [(1, .ref q0), (0, .ref b)]) hx hb dL_law_7 rfl hl (by decide) rfl (fun ls hl => ?_)
  refine va_new (ci := 4) (fs := [.null, .null, .null, .null, .null, .int 0, .null, .null, .null, .int 0, .int 0, .int 0, .null, .int 0]) (C := RX5) (T := TX5) (N := 14) hx hb hts' (wu_all 4 (by decide)) tyX5 tyX5_ok hown (hts' _ (wAt_in (p := 4061) (w := .classLink RL 10 RX5) (by decide +kernel))) (hts' _ (wAt_in (p := 4062) (w := .instantiable RX5 14) (by decide +kernel))) (hts' _ (wAt_in (p := 1006) (w := .initialized RX5) (by decide +kernel))) hK hP hD hS hA rfl (fun j hj => by rcases (show j = 0 ∨ j = 1 ∨ j = 2 ∨ j = 3 ∨ j = 4 ∨ j = 5 ∨ j = 6 ∨ j = 7 ∨ j = 8 ∨ j = 9 ∨ j = 10 ∨ j = 11 ∨ j = 12 ∨ j = 13 by omega) with rfl | rfl | rfl | rfl | rfl | rfl | rfl | rfl | rfl | rfl | rfl | rfl | rfl | rfl <;> rfl) (show 34 + 1 ≤ 44 by decide) (show 382 + 14 ≤ 755 by decide) dL_law_8 (fun q1 H hP hD hS => ?_)
  have hP : va_P (dC, dI) vwC (cwX cA q0 a ++ [(q1, .inr (4, [.null, .null, .null, .null, .null, .int 0, .null, .null, .null, .int 0, .int 0, .int 0, .null, .int 0]))]) H := hP
  have hD : va_D (fun q : Nat => s.heap.size ≤ q) (cwX cA q0 a ++ [(q1, .inr (4, [.null, .null, .null, .null, .null, .int 0, .null, .null, .null, .int 0, .int 0, .int 0, .null, .int 0]))]) := hD
  refine lv_dup hx hb dL_law_11 rfl ?_
  have hPc := hP.sub (ws' := [(q1, .inr (4, [.null, .null, .null, .null, .null, .int 0, .null, .null, .null, .int 0, .int 0, .int 0, .null, .int 0]))]) [34] rfl
  have hDc := hD.sub (ws' := [(q1, .inr (4, [.null, .null, .null, .null, .null, .int 0, .null, .null, .null, .int 0, .int 0, .int 0, .null, .int 0]))]) [34] (by decide) rfl
  have hFc := va_free (wc := [(q1, .inr (4, [.null, .null, .null, .null, .null, .int 0, .null, .null, .null, .int 0, .int 0, .int 0, .null, .int 0]))]) hD hS hA [34] rfl
  refine va_callv (va_runI (As := []) (rest := [.ref q1]) ⟨hx, hb, hml, hown, hts'⟩ (c_X5_init l dC dI cA q1 H.size) (cwI 0 hts' (gI (wAt_in (p := 4065) (w := .code yX5_init cX5_init 1 none) (by decide +kernel))) rfl rfl rfl (hts' _ (wAt_in (p := 1006) (w := .initialized RX5) (by decide +kernel))) (hts' _ (wAt_in (p := 4063) (w := .methodLink RL 12 yX5_init) (by decide +kernel))) (hts' _ (wAt_in (p := 4064) (w := .instanceMethod yX5_init) (by decide +kernel))) rfl (by decide +kernel) ⟨Nat.le_of_ble_eq_true rfl, Nat.le_of_ble_eq_true rfl⟩) ⟨fun a U g mk z => by obtain ⟨z0, z1, zP, zK, zD⟩ := z; exact ⟨z0, z1, zP, va_K.moved (u := U) (U := U.calling g mk a) (Vm.Alike.refl U.vm) zK, zD⟩, fun U hU hW => ⟨rfl, by rw [hU], by rw [hU]; exact hPc, va_K.moved hW.alike hK, hDc.weaken (fun _ _ _ _ => trivial)⟩⟩ rfl rfl hl.1 rfl (lv_room (Nat.le_of_ble_eq_true rfl)) dL_law_12 ⟨(show 35 + 9 ≤ 44 by decide), (show 396 + 359 ≤ 755 by decide)⟩) hS (fun x _ h => hFc x h) hFc (fun u t H1 locs ht hvm hw hB hz1 hk1 hS => ?_)
  obtain ⟨z, rfl⟩ : ∃ z, z = u := ⟨_, rfl⟩
  obtain ⟨hP1, hD1⟩ := hB
  rw [ht] at hP1
  obtain ⟨hP, hD⟩ := va_join (wr := cwX cA q0 a) (w1 := cwN cA q1 z) hP hD [34] [0, 1, 2, 3, 4, 5, 6, 7, 8, 9, 10, 11, 12, 13, 14, 15, 16, 17, 18, 19, 20, 21, 22, 23, 24, 25, 26, 27, 28, 29, 30, 31, 32, 33] rfl rfl (by decide) (by decide) hk1 hFc hP1 hD1
  generalize H1 = H at hP hS ⊢
  refine lv_astore_n (lv' := [(2, .ref q1), (1, .ref q0), (0, .ref b)]) hx hb dL_law_15 rfl hl (by decide) rfl (fun ls hl => ?_)
  refine lv_iconst (v := 0) hx hb dL_law_16 (by decide) ?_
  refine lv_istore_n (lv' := [(3, .int 0), (2, .ref q1), (1, .ref q0), (0, .ref b)]) hx hb dL_law_17 rfl hl (by decide) rfl (fun ls hl => ?_)
  obtain ⟨σ', hrun⟩ := law_am L xs hL
  obtain ⟨n, hn⟩ := Rx_ex hrun
  have hPw := hP.sub _ (wld_perm cA q0 q1 a z adK adV b L xs)
  have hDw := hD.sub _ (by decide) (wld_permD cA q0 q1 a z adK adV b L xs)
  generalize had : adf q0 q1 a z adK adV b = ad at hPw hDw
  have e30 : ad 30 = adK := by rw [← had]; rfl
  have e31 : ad 31 = adV := by rw [← had]; rfl
  have e32 : ad 32 0 = b := by rw [← had]; rfl
  have e00 : ad 0 0 = q0 := by rw [← had]; rfl
  have e16 : ad 16 0 = q1 := by rw [← had]; rfl
  have hEv : Evn (dC, dI) cA ad vF L xs (fun q : Nat => s.heap.size ≤ q) s := ⟨hK, by rw [e30, e31]; exact eS, by rw [e30]; exact eR, eZ1, eZ2, eN, by rw [e32]; exact hX, by rw [e32]; exact hbl, by rw [e32]; exact Nat.not_le.mpr hbl⟩
  have hO : AdOK ad vF L := ⟨fun t r t' r' h h' e => by
    have h1 := hDw.1 (wpos t r) (wpos t' r') _ _ (wld_at h) (wld_at h') e
    have h2 : some (t, r) = some (t', r') := by rw [← h, ← h', h1]
    cases h2
    exact ⟨rfl, rfl⟩, hF, hL⟩
  have hAd : AdIn ad (fun q : Nat => s.heap.size ≤ q) := fun t r h => hDw.2 (wpos t r) _ (wld_at h)
  have hWP : WP (dC, dI) cA ad L xs (σ0 L xs) H := ⟨hPw, fun j _ => rfl, by show (if L < 2147483648 then (L : Int) else 0) = L; rw [if_pos (by omega)], fun t r k => by
    unfold σ0
    split
    · exact ⟨by omega, by omega⟩
    · split
      · split
        · exact okI_to _
        · split <;> exact ⟨by omega, by omega⟩
      · exact okI_0⟩
  have hC : Cx p s m #[Value.ref b] c k_L_law := ⟨hx, hb, hml, hown, hts'⟩
  have hLR : LR ad vF (mL k_L_law) [.inr (.inl (32, 0)), .inr (.inl (0, 0)), .inr (.inl (16, 0)), .inl 0] ls := by
    refine ⟨rfl, ?_⟩
    have h1 := lv_sub (l' := [(0, .ref b), (1, .ref q0), (2, .ref q1), (3, .int 0)]) hl [3, 2, 1, 0] rfl
    rw [← e32, ← e00, ← e16] at h1
    exact h1
  have key := sim l n k_L_law 18 _ [] (σ0 L xs) _ σ' hn (by decide) p e room_1 s m #[Value.ref b] below meth c 44 755 (lw_Z below #[Value.ref b] s) (dC, dI) cA ad vF L xs (fun q : Nat => s.heap.size ≤ q) hC hEv hO hAd ⟨by decide +kernel, by decide +kernel, by decide, by decide⟩ (fun H locs lsM pc n i st' hf ha hs hW hS => ?_)
  · refine key H locs ls hLR (fun v hv => ?_) (fun v hv => by cases hv) hWP hS
    simp only [List.mem_cons, List.not_mem_nil, or_false] at hv
    rcases hv with rfl | rfl | rfl | rfl
    · exact Or.inr (Or.inr (Or.inl ⟨rfl, rfl⟩))
    · exact Or.inl rfl
    · exact Or.inl rfl
    · exact okI_0
  · have hd := fetch_ok hf
    have hn2 := len_ok hf
    unfold aRet at ha
    split at ha
    · split at ha <;> cases ha
    · split at ha
      · cases ha
        obtain rfl := il1 hn2 (Nat.succ_ne_zero _)
        refine va_forget (fun q hq => hS.2.2 q hq) ?_
        exact lw_ret hx hb hr hlocks hd
      · cases ha
    · split at ha <;> cases ha
    · split at ha <;> cases ha
    · cases ha
end
