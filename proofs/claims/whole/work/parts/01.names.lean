-- ===== PART A: goes FIRST, ahead of the names: the tables' words, and 'selects' of the private methods out of them =====
/-- a private method of a class that the tables say can be made, by its rows of tables_1 -/
def lw_okq (q : MethodName × Nat) : Prop := (q.1.cls ≠ "java/lang/invoke/MethodHandle" ∧ q.1.cls ≠ "java/lang/invoke/VarHandle") ∧ Cond.instantiable q.1.cls q.2 ∈ tables_1 ∧ Cond.privateMethod q.1 ∈ tables_1 ∧ Cond.instanceMethod q.1 ∈ tables_1
theorem lw_p0 : lw_okq (⟨"LeansAgainstReason", "refuse", "(I)I"⟩, 8) := ⟨⟨by decide +kernel, by decide +kernel⟩, List.mem_of_getElem? (i := 17) (by decide +kernel), List.mem_of_getElem? (i := 154) (by decide +kernel), List.mem_of_getElem? (i := 155) (by decide +kernel)⟩
theorem lw_p1 : lw_okq (⟨"LeansAgainstReason$Rack", "weigh", "(II)V"⟩, 12) := ⟨⟨by decide +kernel, by decide +kernel⟩, List.mem_of_getElem? (i := 31) (by decide +kernel), List.mem_of_getElem? (i := 352) (by decide +kernel), List.mem_of_getElem? (i := 353) (by decide +kernel)⟩
theorem lw_p2 : lw_okq (⟨"LeansAgainstReason$Rack", "heaviestOn", "(I)I"⟩, 12) := ⟨⟨by decide +kernel, by decide +kernel⟩, List.mem_of_getElem? (i := 31) (by decide +kernel), List.mem_of_getElem? (i := 383) (by decide +kernel), List.mem_of_getElem? (i := 384) (by decide +kernel)⟩
theorem lw_p3 : lw_okq (⟨"LeansAgainstReason", "lessNextDay", "(I)I"⟩, 8) := ⟨⟨by decide +kernel, by decide +kernel⟩, List.mem_of_getElem? (i := 17) (by decide +kernel), List.mem_of_getElem? (i := 413) (by decide +kernel), List.mem_of_getElem? (i := 414) (by decide +kernel)⟩
theorem lw_p4 : lw_okq (⟨"LeansAgainstReason", "offUpThing", "(I)I"⟩, 8) := ⟨⟨by decide +kernel, by decide +kernel⟩, List.mem_of_getElem? (i := 17) (by decide +kernel), List.mem_of_getElem? (i := 470) (by decide +kernel), List.mem_of_getElem? (i := 471) (by decide +kernel)⟩
theorem lw_p5 : lw_okq (⟨"LeansAgainstReason$Mind", "downFromThen", "(I)I"⟩, 3) := ⟨⟨by decide +kernel, by decide +kernel⟩, List.mem_of_getElem? (i := 25) (by decide +kernel), List.mem_of_getElem? (i := 528) (by decide +kernel), List.mem_of_getElem? (i := 529) (by decide +kernel)⟩
theorem lw_p6 : lw_okq (⟨"LeansAgainstReason$Mind", "standingWith", "(III)I"⟩, 3) := ⟨⟨by decide +kernel, by decide +kernel⟩, List.mem_of_getElem? (i := 25) (by decide +kernel), List.mem_of_getElem? (i := 634) (by decide +kernel), List.mem_of_getElem? (i := 635) (by decide +kernel)⟩
theorem lw_p7 : lw_okq (⟨"LeansAgainstReason$Rack", "weightOf", "(I)I"⟩, 12) := ⟨⟨by decide +kernel, by decide +kernel⟩, List.mem_of_getElem? (i := 31) (by decide +kernel), List.mem_of_getElem? (i := 659) (by decide +kernel), List.mem_of_getElem? (i := 660) (by decide +kernel)⟩
theorem lw_p8 : lw_okq (⟨"LeansAgainstReason", "offDraught", "(IIII)I"⟩, 8) := ⟨⟨by decide +kernel, by decide +kernel⟩, List.mem_of_getElem? (i := 17) (by decide +kernel), List.mem_of_getElem? (i := 688) (by decide +kernel), List.mem_of_getElem? (i := 689) (by decide +kernel)⟩
theorem lw_p9 : lw_okq (⟨"LeansAgainstReason$Mind", "isUpDraughted", "(III)Z"⟩, 3) := ⟨⟨by decide +kernel, by decide +kernel⟩, List.mem_of_getElem? (i := 25) (by decide +kernel), List.mem_of_getElem? (i := 697) (by decide +kernel), List.mem_of_getElem? (i := 698) (by decide +kernel)⟩
theorem lw_p10 : lw_okq (⟨"LeansAgainstReason$Mind", "standingPushed", "(III)I"⟩, 3) := ⟨⟨by decide +kernel, by decide +kernel⟩, List.mem_of_getElem? (i := 25) (by decide +kernel), List.mem_of_getElem? (i := 718) (by decide +kernel), List.mem_of_getElem? (i := 719) (by decide +kernel)⟩
theorem lw_p11 : lw_okq (⟨"LeansAgainstReason", "kindsThatFit", "(I)I"⟩, 8) := ⟨⟨by decide +kernel, by decide +kernel⟩, List.mem_of_getElem? (i := 17) (by decide +kernel), List.mem_of_getElem? (i := 726) (by decide +kernel), List.mem_of_getElem? (i := 727) (by decide +kernel)⟩
theorem lw_p12 : lw_okq (⟨"LeansAgainstReason", "figuresThatFit", "(I)I"⟩, 8) := ⟨⟨by decide +kernel, by decide +kernel⟩, List.mem_of_getElem? (i := 17) (by decide +kernel), List.mem_of_getElem? (i := 735) (by decide +kernel), List.mem_of_getElem? (i := 736) (by decide +kernel)⟩
theorem lw_p13 : lw_okq (⟨"LeansAgainstReasonModel", "no", "(I)I"⟩, 14) := ⟨⟨by decide +kernel, by decide +kernel⟩, List.mem_of_getElem? (i := 782) (by decide +kernel), List.mem_of_getElem? (i := 835) (by decide +kernel), List.mem_of_getElem? (i := 836) (by decide +kernel)⟩
theorem lw_p14 : lw_okq (⟨"LeansAgainstReasonModel", "readsStatement", "()Z"⟩, 14) := ⟨⟨by decide +kernel, by decide +kernel⟩, List.mem_of_getElem? (i := 782) (by decide +kernel), List.mem_of_getElem? (i := 843) (by decide +kernel), List.mem_of_getElem? (i := 844) (by decide +kernel)⟩
theorem lw_p15 : lw_okq (⟨"LeansAgainstReasonModel", "here", "()I"⟩, 14) := ⟨⟨by decide +kernel, by decide +kernel⟩, List.mem_of_getElem? (i := 782) (by decide +kernel), List.mem_of_getElem? (i := 847) (by decide +kernel), List.mem_of_getElem? (i := 848) (by decide +kernel)⟩
def lw_privs_1 : List (MethodName × Nat) := [(⟨"LeansAgainstReason", "refuse", "(I)I"⟩, 8), (⟨"LeansAgainstReason$Rack", "weigh", "(II)V"⟩, 12), (⟨"LeansAgainstReason$Rack", "heaviestOn", "(I)I"⟩, 12), (⟨"LeansAgainstReason", "lessNextDay", "(I)I"⟩, 8), (⟨"LeansAgainstReason", "offUpThing", "(I)I"⟩, 8), (⟨"LeansAgainstReason$Mind", "downFromThen", "(I)I"⟩, 3), (⟨"LeansAgainstReason$Mind", "standingWith", "(III)I"⟩, 3), (⟨"LeansAgainstReason$Rack", "weightOf", "(I)I"⟩, 12), (⟨"LeansAgainstReason", "offDraught", "(IIII)I"⟩, 8), (⟨"LeansAgainstReason$Mind", "isUpDraughted", "(III)Z"⟩, 3), (⟨"LeansAgainstReason$Mind", "standingPushed", "(III)I"⟩, 3), (⟨"LeansAgainstReason", "kindsThatFit", "(I)I"⟩, 8), (⟨"LeansAgainstReason", "figuresThatFit", "(I)I"⟩, 8), (⟨"LeansAgainstReasonModel", "no", "(I)I"⟩, 14), (⟨"LeansAgainstReasonModel", "readsStatement", "()Z"⟩, 14), (⟨"LeansAgainstReasonModel", "here", "()I"⟩, 14)]
theorem lw_r1 : ∀ q ∈ lw_privs_1, lw_okq q := List.forall_mem_cons.mpr ⟨lw_p0, List.forall_mem_cons.mpr ⟨lw_p1, List.forall_mem_cons.mpr ⟨lw_p2, List.forall_mem_cons.mpr ⟨lw_p3, List.forall_mem_cons.mpr ⟨lw_p4, List.forall_mem_cons.mpr ⟨lw_p5, List.forall_mem_cons.mpr ⟨lw_p6, List.forall_mem_cons.mpr ⟨lw_p7, List.forall_mem_cons.mpr ⟨lw_p8, List.forall_mem_cons.mpr ⟨lw_p9, List.forall_mem_cons.mpr ⟨lw_p10, List.forall_mem_cons.mpr ⟨lw_p11, List.forall_mem_cons.mpr ⟨lw_p12, List.forall_mem_cons.mpr ⟨lw_p13, List.forall_mem_cons.mpr ⟨lw_p14, List.forall_mem_cons.mpr ⟨lw_p15, fun _ h => absurd h List.not_mem_nil⟩⟩⟩⟩⟩⟩⟩⟩⟩⟩⟩⟩⟩⟩⟩⟩
theorem lw_p16 : lw_okq (⟨"LeansAgainstReasonModel", "readsKind", "()Z"⟩, 14) := ⟨⟨by decide +kernel, by decide +kernel⟩, List.mem_of_getElem? (i := 782) (by decide +kernel), List.mem_of_getElem? (i := 851) (by decide +kernel), List.mem_of_getElem? (i := 852) (by decide +kernel)⟩
theorem lw_p17 : lw_okq (⟨"LeansAgainstReasonModel", "readsNumber", "(II)Z"⟩, 14) := ⟨⟨by decide +kernel, by decide +kernel⟩, List.mem_of_getElem? (i := 782) (by decide +kernel), List.mem_of_getElem? (i := 858) (by decide +kernel), List.mem_of_getElem? (i := 859) (by decide +kernel)⟩
theorem lw_p18 : lw_okq (⟨"LeansAgainstReasonModel", "isDone", "(I)Z"⟩, 14) := ⟨⟨by decide +kernel, by decide +kernel⟩, List.mem_of_getElem? (i := 782) (by decide +kernel), List.mem_of_getElem? (i := 868) (by decide +kernel), List.mem_of_getElem? (i := 869) (by decide +kernel)⟩
theorem lw_p19 : lw_okq (⟨"LeansAgainstReasonModel", "addsPurpose", "(III)Z"⟩, 14) := ⟨⟨by decide +kernel, by decide +kernel⟩, List.mem_of_getElem? (i := 782) (by decide +kernel), List.mem_of_getElem? (i := 872) (by decide +kernel), List.mem_of_getElem? (i := 873) (by decide +kernel)⟩
theorem lw_p20 : lw_okq (⟨"LeansAgainstReasonModel", "addsThing", "(III)Z"⟩, 14) := ⟨⟨by decide +kernel, by decide +kernel⟩, List.mem_of_getElem? (i := 782) (by decide +kernel), List.mem_of_getElem? (i := 879) (by decide +kernel), List.mem_of_getElem? (i := 880) (by decide +kernel)⟩
theorem lw_p21 : lw_okq (⟨"LeansAgainstReasonModel", "isPurpose", "(I)Z"⟩, 14) := ⟨⟨by decide +kernel, by decide +kernel⟩, List.mem_of_getElem? (i := 782) (by decide +kernel), List.mem_of_getElem? (i := 892) (by decide +kernel), List.mem_of_getElem? (i := 893) (by decide +kernel)⟩
theorem lw_p22 : lw_okq (⟨"LeansAgainstReasonModel", "isThing", "(I)Z"⟩, 14) := ⟨⟨by decide +kernel, by decide +kernel⟩, List.mem_of_getElem? (i := 782) (by decide +kernel), List.mem_of_getElem? (i := 896) (by decide +kernel), List.mem_of_getElem? (i := 897) (by decide +kernel)⟩
theorem lw_p23 : lw_okq (⟨"LeansAgainstReasonModel", "daysOn", "([II)V"⟩, 14) := ⟨⟨by decide +kernel, by decide +kernel⟩, List.mem_of_getElem? (i := 782) (by decide +kernel), List.mem_of_getElem? (i := 900) (by decide +kernel), List.mem_of_getElem? (i := 901) (by decide +kernel)⟩
theorem lw_p24 : lw_okq (⟨"LeansAgainstReasonModel", "day", "([I)V"⟩, 14) := ⟨⟨by decide +kernel, by decide +kernel⟩, List.mem_of_getElem? (i := 782) (by decide +kernel), List.mem_of_getElem? (i := 904) (by decide +kernel), List.mem_of_getElem? (i := 905) (by decide +kernel)⟩
theorem lw_p25 : lw_okq (⟨"LeansAgainstReasonModel", "noFar", "(I)I"⟩, 14) := ⟨⟨by decide +kernel, by decide +kernel⟩, List.mem_of_getElem? (i := 782) (by decide +kernel), List.mem_of_getElem? (i := 937) (by decide +kernel), List.mem_of_getElem? (i := 938) (by decide +kernel)⟩
theorem lw_p26 : lw_okq (⟨"LeansAgainstReasonModel", "wrongUp", "(I)I"⟩, 14) := ⟨⟨by decide +kernel, by decide +kernel⟩, List.mem_of_getElem? (i := 782) (by decide +kernel), List.mem_of_getElem? (i := 966) (by decide +kernel), List.mem_of_getElem? (i := 967) (by decide +kernel)⟩
theorem lw_p27 : lw_okq (⟨"LeansAgainstReasonModel", "takesOn", "(I)V"⟩, 14) := ⟨⟨by decide +kernel, by decide +kernel⟩, List.mem_of_getElem? (i := 782) (by decide +kernel), List.mem_of_getElem? (i := 995) (by decide +kernel), List.mem_of_getElem? (i := 996) (by decide +kernel)⟩
theorem lw_p28 : lw_okq (⟨"LeansAgainstReasonModel", "upIn", "(I)I"⟩, 14) := ⟨⟨by decide +kernel, by decide +kernel⟩, List.mem_of_getElem? (i := 782) (by decide +kernel), List.mem_of_getElem? (i := 1003) (by decide +kernel), List.mem_of_getElem? (i := 1004) (by decide +kernel)⟩
theorem lw_p29 : lw_okq (⟨"LeansAgainstReasonModel", "fallsOf", "(I)I"⟩, 14) := ⟨⟨by decide +kernel, by decide +kernel⟩, List.mem_of_getElem? (i := 782) (by decide +kernel), List.mem_of_getElem? (i := 1015) (by decide +kernel), List.mem_of_getElem? (i := 1016) (by decide +kernel)⟩
theorem lw_p30 : lw_okq (⟨"LeansAgainstReasonModel", "downIn", "(IZ)I"⟩, 14) := ⟨⟨by decide +kernel, by decide +kernel⟩, List.mem_of_getElem? (i := 782) (by decide +kernel), List.mem_of_getElem? (i := 1019) (by decide +kernel), List.mem_of_getElem? (i := 1020) (by decide +kernel)⟩
theorem lw_p31 : lw_okq (⟨"LeansAgainstReasonModel", "pushedBy", "(I)I"⟩, 14) := ⟨⟨by decide +kernel, by decide +kernel⟩, List.mem_of_getElem? (i := 782) (by decide +kernel), List.mem_of_getElem? (i := 1031) (by decide +kernel), List.mem_of_getElem? (i := 1032) (by decide +kernel)⟩
def lw_privs_2 : List (MethodName × Nat) := [(⟨"LeansAgainstReasonModel", "readsKind", "()Z"⟩, 14), (⟨"LeansAgainstReasonModel", "readsNumber", "(II)Z"⟩, 14), (⟨"LeansAgainstReasonModel", "isDone", "(I)Z"⟩, 14), (⟨"LeansAgainstReasonModel", "addsPurpose", "(III)Z"⟩, 14), (⟨"LeansAgainstReasonModel", "addsThing", "(III)Z"⟩, 14), (⟨"LeansAgainstReasonModel", "isPurpose", "(I)Z"⟩, 14), (⟨"LeansAgainstReasonModel", "isThing", "(I)Z"⟩, 14), (⟨"LeansAgainstReasonModel", "daysOn", "([II)V"⟩, 14), (⟨"LeansAgainstReasonModel", "day", "([I)V"⟩, 14), (⟨"LeansAgainstReasonModel", "noFar", "(I)I"⟩, 14), (⟨"LeansAgainstReasonModel", "wrongUp", "(I)I"⟩, 14), (⟨"LeansAgainstReasonModel", "takesOn", "(I)V"⟩, 14), (⟨"LeansAgainstReasonModel", "upIn", "(I)I"⟩, 14), (⟨"LeansAgainstReasonModel", "fallsOf", "(I)I"⟩, 14), (⟨"LeansAgainstReasonModel", "downIn", "(IZ)I"⟩, 14), (⟨"LeansAgainstReasonModel", "pushedBy", "(I)I"⟩, 14)]
theorem lw_r2 : ∀ q ∈ lw_privs_2, lw_okq q := List.forall_mem_cons.mpr ⟨lw_p16, List.forall_mem_cons.mpr ⟨lw_p17, List.forall_mem_cons.mpr ⟨lw_p18, List.forall_mem_cons.mpr ⟨lw_p19, List.forall_mem_cons.mpr ⟨lw_p20, List.forall_mem_cons.mpr ⟨lw_p21, List.forall_mem_cons.mpr ⟨lw_p22, List.forall_mem_cons.mpr ⟨lw_p23, List.forall_mem_cons.mpr ⟨lw_p24, List.forall_mem_cons.mpr ⟨lw_p25, List.forall_mem_cons.mpr ⟨lw_p26, List.forall_mem_cons.mpr ⟨lw_p27, List.forall_mem_cons.mpr ⟨lw_p28, List.forall_mem_cons.mpr ⟨lw_p29, List.forall_mem_cons.mpr ⟨lw_p30, List.forall_mem_cons.mpr ⟨lw_p31, fun _ h => absurd h List.not_mem_nil⟩⟩⟩⟩⟩⟩⟩⟩⟩⟩⟩⟩⟩⟩⟩⟩
theorem lw_p32 : lw_okq (⟨"LeansAgainstReasonModel", "upWith", "(III)I"⟩, 14) := ⟨⟨by decide +kernel, by decide +kernel⟩, List.mem_of_getElem? (i := 782) (by decide +kernel), List.mem_of_getElem? (i := 1062) (by decide +kernel), List.mem_of_getElem? (i := 1063) (by decide +kernel)⟩
theorem lw_p33 : lw_okq (⟨"LeansAgainstReasonModel", "weightOf", "(I)I"⟩, 14) := ⟨⟨by decide +kernel, by decide +kernel⟩, List.mem_of_getElem? (i := 782) (by decide +kernel), List.mem_of_getElem? (i := 1078) (by decide +kernel), List.mem_of_getElem? (i := 1079) (by decide +kernel)⟩
theorem lw_p34 : lw_okq (⟨"LeansAgainstReasonModel", "pushesLeast", "(Z)V"⟩, 14) := ⟨⟨by decide +kernel, by decide +kernel⟩, List.mem_of_getElem? (i := 782) (by decide +kernel), List.mem_of_getElem? (i := 1086) (by decide +kernel), List.mem_of_getElem? (i := 1087) (by decide +kernel)⟩
theorem lw_p35 : lw_okq (⟨"LeansAgainstReasonModel", "noWide", "(I)J"⟩, 14) := ⟨⟨by decide +kernel, by decide +kernel⟩, List.mem_of_getElem? (i := 782) (by decide +kernel), List.mem_of_getElem? (i := 1105) (by decide +kernel), List.mem_of_getElem? (i := 1106) (by decide +kernel)⟩
theorem lw_p36 : lw_okq (⟨"LeansAgainstReasonModel", "upPushed", "(IIIII)I"⟩, 14) := ⟨⟨by decide +kernel, by decide +kernel⟩, List.mem_of_getElem? (i := 782) (by decide +kernel), List.mem_of_getElem? (i := 1120) (by decide +kernel), List.mem_of_getElem? (i := 1121) (by decide +kernel)⟩
theorem lw_p37 : lw_okq (⟨"LeansAgainstReasonModel", "drawn", "(I)I"⟩, 14) := ⟨⟨by decide +kernel, by decide +kernel⟩, List.mem_of_getElem? (i := 782) (by decide +kernel), List.mem_of_getElem? (i := 1144) (by decide +kernel), List.mem_of_getElem? (i := 1145) (by decide +kernel)⟩
def lw_privs_3 : List (MethodName × Nat) := [(⟨"LeansAgainstReasonModel", "upWith", "(III)I"⟩, 14), (⟨"LeansAgainstReasonModel", "weightOf", "(I)I"⟩, 14), (⟨"LeansAgainstReasonModel", "pushesLeast", "(Z)V"⟩, 14), (⟨"LeansAgainstReasonModel", "noWide", "(I)J"⟩, 14), (⟨"LeansAgainstReasonModel", "upPushed", "(IIIII)I"⟩, 14), (⟨"LeansAgainstReasonModel", "drawn", "(I)I"⟩, 14)]
theorem lw_r3 : ∀ q ∈ lw_privs_3, lw_okq q := List.forall_mem_cons.mpr ⟨lw_p32, List.forall_mem_cons.mpr ⟨lw_p33, List.forall_mem_cons.mpr ⟨lw_p34, List.forall_mem_cons.mpr ⟨lw_p35, List.forall_mem_cons.mpr ⟨lw_p36, List.forall_mem_cons.mpr ⟨lw_p37, fun _ h => absurd h List.not_mem_nil⟩⟩⟩⟩⟩⟩
def lw_privs : List (MethodName × Nat) := lw_privs_1 ++ (lw_privs_2 ++ (lw_privs_3))
def lw_tbl : List Cond := k2_sels lw_privs ++ tables_1
theorem lw_privs_ok : ∀ q ∈ lw_privs, lw_okq q := by
  show ∀ q ∈ lw_privs_1 ++ (lw_privs_2 ++ (lw_privs_3)), lw_okq q
  exact List.forall_mem_append.mpr ⟨lw_r1, List.forall_mem_append.mpr ⟨lw_r2, lw_r3⟩⟩

/-! names, as printed -/
def RX0 : String := "LeansAgainstReason$Letters"
def TX0 : u_T := fun k => match k with
  | 0 => ("LeansAgainstReason$Letters", "told", "[I", true)
  | _ => ("LeansAgainstReason$Letters", "many", "I", false)
def tyX0 : Nat → FieldType := fun k => match k with
  | 0 => .array .int
  | _ => .int
abbrev wsX00 : List Cond := u_ws RX0 TX0 2
theorem nmX0 : ∀ a, a < 2 → ∀ b, b < 2 → a ≠ b → (TX0 a).2.1 ≠ (TX0 b).2.1 := by decide +kernel
theorem tyX0_ok : ∀ k, k < 2 → parseFieldDescriptor (TX0 k).2.2.1 = some (tyX0 k) := by decide +kernel
abbrev cX0_init : ByteArray := prog_2_method_1_code
def yX0_init : MethodName := ⟨RX0, "<init>", "()V"⟩
abbrev cX0_add : ByteArray := prog_2_method_2_code
def yX0_add : MethodName := ⟨RX0, "add", "(I)V"⟩
abbrev cX0_formOf : ByteArray := prog_2_method_3_code
def yX0_formOf : MethodName := ⟨RX0, "formOf", "(I)Ljava/lang/String;"⟩
abbrev cX0_fits : ByteArray := prog_2_method_4_code
def yX0_fits : MethodName := ⟨RX0, "fits", "(CI)Z"⟩
abbrev cX0_kindOf : ByteArray := prog_2_method_5_code
def yX0_kindOf : MethodName := ⟨RX0, "kindOf", "(I)I"⟩
abbrev cX0_firstWrong : ByteArray := prog_2_method_6_code
def yX0_firstWrong : MethodName := ⟨RX0, "firstWrong", "()I"⟩
abbrev cX0_letterAt : ByteArray := prog_2_method_7_code
def yX0_letterAt : MethodName := ⟨RX0, "letterAt", "(I)I"⟩
abbrev cX0_digitAt : ByteArray := prog_2_method_8_code
def yX0_digitAt : MethodName := ⟨RX0, "digitAt", "(I)I"⟩
abbrev cX0_numberAt : ByteArray := prog_2_method_9_code
def yX0_numberAt : MethodName := ⟨RX0, "numberAt", "(I)I"⟩
abbrev cX0_tell : ByteArray := prog_2_method_10_code
def yX0_tell : MethodName := ⟨RX0, "tell", "(ILLeansAgainstReason$Rack;)Z"⟩
abbrev cX0_tellDays : ByteArray := prog_2_method_11_code
def yX0_tellDays : MethodName := ⟨RX0, "tellDays", "(ILLeansAgainstReason$Rack;)Z"⟩
def RX1 : String := "LeansAgainstReason$Mind"
def TX1 : u_T := fun k => match k with
  | 0 => ("LeansAgainstReason$Mind", "now", "LLeansAgainstReason$Rack;", true)
  | 1 => ("LeansAgainstReason$Mind", "then", "LLeansAgainstReason$Rack;", true)
  | _ => ("LeansAgainstReason$Mind", "outcomes", "[I", true)
def tyX1 : Nat → FieldType := fun k => match k with
  | 0 => .object "LeansAgainstReason$Rack"
  | 1 => .object "LeansAgainstReason$Rack"
  | _ => .array .int
abbrev wsX10 : List Cond := u_ws RX1 TX1 3
theorem nmX1 : ∀ a, a < 3 → ∀ b, b < 3 → a ≠ b → (TX1 a).2.1 ≠ (TX1 b).2.1 := by decide +kernel
theorem tyX1_ok : ∀ k, k < 3 → parseFieldDescriptor (TX1 k).2.2.1 = some (tyX1 k) := by decide +kernel
abbrev cX1_init : ByteArray := prog_3_method_1_code
def yX1_init : MethodName := ⟨RX1, "<init>", "()V"⟩
abbrev cX1_hear : ByteArray := prog_3_method_2_code
def yX1_hear : MethodName := ⟨RX1, "hear", "(LLeansAgainstReason$Letters;)I"⟩
abbrev cX1_behind : ByteArray := prog_3_method_3_code
def yX1_behind : MethodName := ⟨RX1, "behind", "(I)LLeansAgainstReason$Rack;"⟩
abbrev cX1_downBehind : ByteArray := prog_3_method_4_code
def yX1_downBehind : MethodName := ⟨RX1, "downBehind", "(I)I"⟩
abbrev cX1_downFromThen : ByteArray := prog_3_method_5_code
def yX1_downFromThen : MethodName := ⟨RX1, "downFromThen", "(I)I"⟩
abbrev cX1_firstDownBehind : ByteArray := prog_3_method_6_code
def yX1_firstDownBehind : MethodName := ⟨RX1, "firstDownBehind", "()I"⟩
abbrev cX1_flatBehind : ByteArray := prog_3_method_7_code
def yX1_flatBehind : MethodName := ⟨RX1, "flatBehind", "()I"⟩
abbrev cX1_betterLean : ByteArray := prog_3_method_8_code
def yX1_betterLean : MethodName := ⟨RX1, "betterLean", "(I)I"⟩
abbrev cX1_bestOfThree : ByteArray := prog_3_method_9_code
def yX1_bestOfThree : MethodName := ⟨RX1, "bestOfThree", "(IIII)I"⟩
abbrev cX1_standingLeant : ByteArray := prog_3_method_10_code
def yX1_standingLeant : MethodName := ⟨RX1, "standingLeant", "(IIIII)I"⟩
abbrev cX1_toMend : ByteArray := prog_3_method_11_code
def yX1_toMend : MethodName := ⟨RX1, "toMend", "(I)I"⟩
abbrev cX1_toBreak : ByteArray := prog_3_method_12_code
def yX1_toBreak : MethodName := ⟨RX1, "toBreak", "(I)I"⟩
abbrev cX1_standingWith : ByteArray := prog_3_method_13_code
def yX1_standingWith : MethodName := ⟨RX1, "standingWith", "(III)I"⟩
abbrev cX1_safestPlace : ByteArray := prog_3_method_14_code
def yX1_safestPlace : MethodName := ⟨RX1, "safestPlace", "(I)I"⟩
abbrev cX1_felledFrom : ByteArray := prog_3_method_15_code
def yX1_felledFrom : MethodName := ⟨RX1, "felledFrom", "(II)I"⟩
abbrev cX1_standingRobbed : ByteArray := prog_3_method_16_code
def yX1_standingRobbed : MethodName := ⟨RX1, "standingRobbed", "(I)I"⟩
abbrev cX1_nothingToRobBehind : ByteArray := prog_3_method_17_code
def yX1_nothingToRobBehind : MethodName := ⟨RX1, "nothingToRobBehind", "()I"⟩
abbrev cX1_waysUp : ByteArray := prog_3_method_18_code
def yX1_waysUp : MethodName := ⟨RX1, "waysUp", "(III)J"⟩
abbrev cX1_isUpDraughted : ByteArray := prog_3_method_19_code
def yX1_isUpDraughted : MethodName := ⟨RX1, "isUpDraughted", "(III)Z"⟩
abbrev cX1_settled : ByteArray := prog_3_method_20_code
def yX1_settled : MethodName := ⟨RX1, "settled", "(III)I"⟩
abbrev cX1_standingPushed : ByteArray := prog_3_method_21_code
def yX1_standingPushed : MethodName := ⟨RX1, "standingPushed", "(III)I"⟩
abbrev cX1_weakensAs : ByteArray := prog_3_method_22_code
def yX1_weakensAs : MethodName := ⟨RX1, "weakensAs", "(III[II)Z"⟩
abbrev cX1_firstMisjudged : ByteArray := prog_3_method_23_code
def yX1_firstMisjudged : MethodName := ⟨RX1, "firstMisjudged", "([II)I"⟩
abbrev cX1_termsByLot : ByteArray := prog_3_method_24_code
def yX1_termsByLot : MethodName := ⟨RX1, "termsByLot", "(III)I"⟩
abbrev cX1_nextSeed : ByteArray := prog_3_method_25_code
def yX1_nextSeed : MethodName := ⟨RX1, "nextSeed", "(I)I"⟩
abbrev cX1_drawBelow : ByteArray := prog_3_method_26_code
def yX1_drawBelow : MethodName := ⟨RX1, "drawBelow", "(II)I"⟩
def RX2 : String := "LeansAgainstReason$Rack"
def TX2 : u_T := fun k => match k with
  | 0 => ("LeansAgainstReason$Rack", "purposes", "I", false)
  | 1 => ("LeansAgainstReason$Rack", "things", "I", false)
  | 2 => ("LeansAgainstReason$Rack", "day", "I", false)
  | 3 => ("LeansAgainstReason$Rack", "up", "I", false)
  | 4 => ("LeansAgainstReason$Rack", "kind", "[I", true)
  | 5 => ("LeansAgainstReason$Rack", "figure", "[I", true)
  | 6 => ("LeansAgainstReason$Rack", "strength", "[I", true)
  | 7 => ("LeansAgainstReason$Rack", "load", "[I", true)
  | 8 => ("LeansAgainstReason$Rack", "weight", "[I", true)
  | 9 => ("LeansAgainstReason$Rack", "place", "[I", true)
  | 10 => ("LeansAgainstReason$Rack", "holder", "[I", true)
  | _ => ("LeansAgainstReason$Rack", "inPlace", "[I", true)
def tyX2 : Nat → FieldType := fun k => match k with
  | 0 => .int
  | 1 => .int
  | 2 => .int
  | 3 => .int
  | 4 => .array .int
  | 5 => .array .int
  | 6 => .array .int
  | 7 => .array .int
  | 8 => .array .int
  | 9 => .array .int
  | 10 => .array .int
  | _ => .array .int
abbrev wsX20 : List Cond := u_ws RX2 TX2 12
theorem nmX2 : ∀ a, a < 12 → ∀ b, b < 12 → a ≠ b → (TX2 a).2.1 ≠ (TX2 b).2.1 := by decide +kernel
theorem tyX2_ok : ∀ k, k < 12 → parseFieldDescriptor (TX2 k).2.2.1 = some (tyX2 k) := by decide +kernel
abbrev cX2_init : ByteArray := prog_4_method_1_code
def yX2_init : MethodName := ⟨RX2, "<init>", "()V"⟩
abbrev cX2_become : ByteArray := prog_4_method_2_code
def yX2_become : MethodName := ⟨RX2, "become", "(LLeansAgainstReason$Rack;)V"⟩
abbrev cX2_isPurpose : ByteArray := prog_4_method_3_code
def yX2_isPurpose : MethodName := ⟨RX2, "isPurpose", "(I)Z"⟩
abbrev cX2_isThing : ByteArray := prog_4_method_4_code
def yX2_isThing : MethodName := ⟨RX2, "isThing", "(I)Z"⟩
abbrev cX2_isUp : ByteArray := prog_4_method_5_code
def yX2_isUp : MethodName := ⟨RX2, "isUp", "(I)Z"⟩
abbrev cX2_isFreeFor : ByteArray := prog_4_method_6_code
def yX2_isFreeFor : MethodName := ⟨RX2, "isFreeFor", "(II)Z"⟩
abbrev cX2_standing : ByteArray := prog_4_method_7_code
def yX2_standing : MethodName := ⟨RX2, "standing", "()I"⟩
abbrev cX2_spareOf : ByteArray := prog_4_method_8_code
def yX2_spareOf : MethodName := ⟨RX2, "spareOf", "(I)I"⟩
abbrev cX2_allStrength : ByteArray := prog_4_method_9_code
def yX2_allStrength : MethodName := ⟨RX2, "allStrength", "()I"⟩
abbrev cX2_allLoad : ByteArray := prog_4_method_10_code
def yX2_allLoad : MethodName := ⟨RX2, "allLoad", "()I"⟩
abbrev cX2_addPurpose : ByteArray := prog_4_method_11_code
def yX2_addPurpose : MethodName := ⟨RX2, "addPurpose", "(III)Z"⟩
abbrev cX2_addThing : ByteArray := prog_4_method_12_code
def yX2_addThing : MethodName := ⟨RX2, "addThing", "(III)Z"⟩
abbrev cX2_leanOn : ByteArray := prog_4_method_13_code
def yX2_leanOn : MethodName := ⟨RX2, "leanOn", "(II)Z"⟩
abbrev cX2_raise : ByteArray := prog_4_method_14_code
def yX2_raise : MethodName := ⟨RX2, "raise", "(I)Z"⟩
abbrev cX2_strengthen : ByteArray := prog_4_method_15_code
def yX2_strengthen : MethodName := ⟨RX2, "strengthen", "(II)Z"⟩
abbrev cX2_moveTo : ByteArray := prog_4_method_16_code
def yX2_moveTo : MethodName := ⟨RX2, "moveTo", "(II)V"⟩
abbrev cX2_weigh : ByteArray := prog_4_method_17_code
def yX2_weigh : MethodName := ⟨RX2, "weigh", "(II)V"⟩
abbrev cX2_passDays : ByteArray := prog_4_method_18_code
def yX2_passDays : MethodName := ⟨RX2, "passDays", "(I)V"⟩
abbrev cX2_passDay : ByteArray := prog_4_method_19_code
def yX2_passDay : MethodName := ⟨RX2, "passDay", "()V"⟩
abbrev cX2_heaviestOn : ByteArray := prog_4_method_20_code
def yX2_heaviestOn : MethodName := ⟨RX2, "heaviestOn", "(I)I"⟩
abbrev cX2_topple : ByteArray := prog_4_method_21_code
def yX2_topple : MethodName := ⟨RX2, "topple", "(I)I"⟩
abbrev cX2_felledBy : ByteArray := prog_4_method_22_code
def yX2_felledBy : MethodName := ⟨RX2, "felledBy", "(II)I"⟩
abbrev cX2_leastPlaced : ByteArray := prog_4_method_23_code
def yX2_leastPlaced : MethodName := ⟨RX2, "leastPlaced", "(I)I"⟩
abbrev cX2_leastPlacedWithoutSpare : ByteArray := prog_4_method_24_code
def yX2_leastPlacedWithoutSpare : MethodName := ⟨RX2, "leastPlacedWithoutSpare", "()I"⟩
abbrev cX2_worstPush : ByteArray := prog_4_method_25_code
def yX2_worstPush : MethodName := ⟨RX2, "worstPush", "()I"⟩
abbrev cX2_gapBehind : ByteArray := prog_4_method_26_code
def yX2_gapBehind : MethodName := ⟨RX2, "gapBehind", "(I)I"⟩
abbrev cX2_besideFrom : ByteArray := prog_4_method_27_code
def yX2_besideFrom : MethodName := ⟨RX2, "besideFrom", "(I)I"⟩
abbrev cX2_longestFrom : ByteArray := prog_4_method_28_code
def yX2_longestFrom : MethodName := ⟨RX2, "longestFrom", "()I"⟩
abbrev cX2_mostWithin : ByteArray := prog_4_method_29_code
def yX2_mostWithin : MethodName := ⟨RX2, "mostWithin", "(I)I"⟩
abbrev cX2_weightOf : ByteArray := prog_4_method_30_code
def yX2_weightOf : MethodName := ⟨RX2, "weightOf", "(I)I"⟩
def RX3 : String := "LeansAgainstReason$Weakening"
def TX3 : u_T := fun k => match k with
  | _ => ("", "", "", false)
def tyX3 : Nat → FieldType := fun k => match k with
  | _ => .int
abbrev wsX30 : List Cond := u_ws RX3 TX3 0
theorem nmX3 : ∀ a, a < 0 → ∀ b, b < 0 → a ≠ b → (TX3 a).2.1 ≠ (TX3 b).2.1 := by decide +kernel
theorem tyX3_ok : ∀ k, k < 0 → parseFieldDescriptor (TX3 k).2.2.1 = some (tyX3 k) := by decide +kernel
abbrev cX3_by : ByteArray := prog_5_method_2_code
def yX3_by : MethodName := ⟨RX3, "by", "(IIIII)I"⟩
abbrev cX3_ofHabit : ByteArray := prog_5_method_3_code
def yX3_ofHabit : MethodName := ⟨RX3, "ofHabit", "(II)I"⟩
def RX4 : String := "LeansAgainstReason"
def TX4 : u_T := fun k => match k with
  | 0 => ("LeansAgainstReason", "mind", "LLeansAgainstReason$Mind;", true)
  | 1 => ("LeansAgainstReason", "now", "LLeansAgainstReason$Rack;", true)
  | 2 => ("LeansAgainstReason", "letters", "LLeansAgainstReason$Letters;", true)
  | 3 => ("LeansAgainstReason", "image", "LLeansAgainstReason$Rack;", true)
  | 4 => ("LeansAgainstReason", "imageTaken", "Z", false)
  | 5 => ("LeansAgainstReason", "row", "[I", true)
  | 6 => ("LeansAgainstReason", "inRow", "I", false)
  | _ => ("LeansAgainstReason", "refusals", "[I", true)
def tyX4 : Nat → FieldType := fun k => match k with
  | 0 => .object "LeansAgainstReason$Mind"
  | 1 => .object "LeansAgainstReason$Rack"
  | 2 => .object "LeansAgainstReason$Letters"
  | 3 => .object "LeansAgainstReason$Rack"
  | 4 => .boolean
  | 5 => .array .int
  | 6 => .int
  | _ => .array .int
abbrev wsX40 : List Cond := u_ws RX4 TX4 8
theorem nmX4 : ∀ a, a < 8 → ∀ b, b < 8 → a ≠ b → (TX4 a).2.1 ≠ (TX4 b).2.1 := by decide +kernel
theorem tyX4_ok : ∀ k, k < 8 → parseFieldDescriptor (TX4 k).2.2.1 = some (tyX4 k) := by decide +kernel
abbrev cX4_init : ByteArray := prog_1_method_1_code
def yX4_init : MethodName := ⟨RX4, "<init>", "()V"⟩
abbrev cX4_letter : ByteArray := prog_1_method_2_code
def yX4_letter : MethodName := ⟨RX4, "letter", "(I)I"⟩
abbrev cX4_rack : ByteArray := prog_1_method_3_code
def yX4_rack : MethodName := ⟨RX4, "rack", "()I"⟩
abbrev cX4_purpose : ByteArray := prog_1_method_4_code
def yX4_purpose : MethodName := ⟨RX4, "purpose", "(II)I"⟩
abbrev cX4_lessNextDay : ByteArray := prog_1_method_5_code
def yX4_lessNextDay : MethodName := ⟨RX4, "lessNextDay", "(I)I"⟩
abbrev cX4_spare : ByteArray := prog_1_method_6_code
def yX4_spare : MethodName := ⟨RX4, "spare", "(I)I"⟩
abbrev cX4_thing : ByteArray := prog_1_method_7_code
def yX4_thing : MethodName := ⟨RX4, "thing", "(II)I"⟩
abbrev cX4_at : ByteArray := prog_1_method_8_code
def yX4_at : MethodName := ⟨RX4, "at", "(I)I"⟩
abbrev cX4_count : ByteArray := prog_1_method_9_code
def yX4_count : MethodName := ⟨RX4, "count", "(I)I"⟩
abbrev cX4_leans : ByteArray := prog_1_method_10_code
def yX4_leans : MethodName := ⟨RX4, "leans", "(II)I"⟩
abbrev cX4_moves : ByteArray := prog_1_method_11_code
def yX4_moves : MethodName := ⟨RX4, "moves", "(II)I"⟩
abbrev cX4_setsUp : ByteArray := prog_1_method_12_code
def yX4_setsUp : MethodName := ⟨RX4, "setsUp", "(I)I"⟩
abbrev cX4_pushes : ByteArray := prog_1_method_13_code
def yX4_pushes : MethodName := ⟨RX4, "pushes", "(I)I"⟩
abbrev cX4_strong : ByteArray := prog_1_method_14_code
def yX4_strong : MethodName := ⟨RX4, "strong", "(II)I"⟩
abbrev cX4_turn : ByteArray := prog_1_method_15_code
def yX4_turn : MethodName := ⟨RX4, "turn", "(III)I"⟩
abbrev cX4_days : ByteArray := prog_1_method_16_code
def yX4_days : MethodName := ⟨RX4, "days", "(I)I"⟩
abbrev cX4_upThen : ByteArray := prog_1_method_17_code
def yX4_upThen : MethodName := ⟨RX4, "upThen", "(II)I"⟩
abbrev cX4_allThen : ByteArray := prog_1_method_18_code
def yX4_allThen : MethodName := ⟨RX4, "allThen", "(I)I"⟩
abbrev cX4_purposeThen : ByteArray := prog_1_method_19_code
def yX4_purposeThen : MethodName := ⟨RX4, "purposeThen", "(III)I"⟩
abbrev cX4_falls : ByteArray := prog_1_method_20_code
def yX4_falls : MethodName := ⟨RX4, "falls", "(I)I"⟩
abbrev cX4_first : ByteArray := prog_1_method_21_code
def yX4_first : MethodName := ⟨RX4, "first", "(I)I"⟩
abbrev cX4_pushed : ByteArray := prog_1_method_22_code
def yX4_pushed : MethodName := ⟨RX4, "pushed", "(I)I"⟩
abbrev cX4_worst : ByteArray := prog_1_method_23_code
def yX4_worst : MethodName := ⟨RX4, "worst", "(I)I"⟩
abbrev cX4_gap : ByteArray := prog_1_method_24_code
def yX4_gap : MethodName := ⟨RX4, "gap", "(I)I"⟩
abbrev cX4_longest : ByteArray := prog_1_method_25_code
def yX4_longest : MethodName := ⟨RX4, "longest", "(I)I"⟩
abbrev cX4_bestPlace : ByteArray := prog_1_method_26_code
def yX4_bestPlace : MethodName := ⟨RX4, "bestPlace", "(II)I"⟩
abbrev cX4_lean : ByteArray := prog_1_method_27_code
def yX4_lean : MethodName := ⟨RX4, "lean", "(I)I"⟩
abbrev cX4_bestLeans : ByteArray := prog_1_method_28_code
def yX4_bestLeans : MethodName := ⟨RX4, "bestLeans", "(IIIII)I"⟩
abbrev cX4_mended : ByteArray := prog_1_method_29_code
def yX4_mended : MethodName := ⟨RX4, "mended", "(I)I"⟩
abbrev cX4_key : ByteArray := prog_1_method_30_code
def yX4_key : MethodName := ⟨RX4, "key", "(I)I"⟩
abbrev cX4_takes : ByteArray := prog_1_method_31_code
def yX4_takes : MethodName := ⟨RX4, "takes", "(II)I"⟩
abbrev cX4_balanced : ByteArray := prog_1_method_32_code
def yX4_balanced : MethodName := ⟨RX4, "balanced", "(II)I"⟩
abbrev cX4_thief : ByteArray := prog_1_method_33_code
def yX4_thief : MethodName := ⟨RX4, "thief", "(I)I"⟩
abbrev cX4_robbed : ByteArray := prog_1_method_34_code
def yX4_robbed : MethodName := ⟨RX4, "robbed", "()I"⟩
abbrev cX4_draught : ByteArray := prog_1_method_35_code
def yX4_draught : MethodName := ⟨RX4, "draught", "(IIII)J"⟩
abbrev cX4_offDraught : ByteArray := prog_1_method_36_code
def yX4_offDraught : MethodName := ⟨RX4, "offDraught", "(IIII)I"⟩
abbrev cX4_two : ByteArray := prog_1_method_37_code
def yX4_two : MethodName := ⟨RX4, "two", "(III)I"⟩
abbrev cX4_whatWas : ByteArray := prog_1_method_38_code
def yX4_whatWas : MethodName := ⟨RX4, "whatWas", "(II)I"⟩
abbrev cX4_kindsThatFit : ByteArray := prog_1_method_39_code
def yX4_kindsThatFit : MethodName := ⟨RX4, "kindsThatFit", "(I)I"⟩
abbrev cX4_figuresThatFit : ByteArray := prog_1_method_40_code
def yX4_figuresThatFit : MethodName := ⟨RX4, "figuresThatFit", "(I)I"⟩
abbrev cX4_row : ByteArray := prog_1_method_41_code
def yX4_row : MethodName := ⟨RX4, "row", "(I)I"⟩
abbrev cX4_judge : ByteArray := prog_1_method_42_code
def yX4_judge : MethodName := ⟨RX4, "judge", "()I"⟩
abbrev cX4_clear : ByteArray := prog_1_method_43_code
def yX4_clear : MethodName := ⟨RX4, "clear", "()I"⟩
abbrev cX4_lots : ByteArray := prog_1_method_44_code
def yX4_lots : MethodName := ⟨RX4, "lots", "(III)I"⟩
abbrev cX4_image : ByteArray := prog_1_method_45_code
def yX4_image : MethodName := ⟨RX4, "image", "()I"⟩
abbrev cX4_on : ByteArray := prog_1_method_46_code
def yX4_on : MethodName := ⟨RX4, "on", "()I"⟩
abbrev cX4_refuse : ByteArray := prog_1_method_47_code
def yX4_refuse : MethodName := ⟨RX4, "refuse", "(I)I"⟩
abbrev cX4_offUpThing : ByteArray := prog_1_method_48_code
def yX4_offUpThing : MethodName := ⟨RX4, "offUpThing", "(I)I"⟩
abbrev cX4_outside : ByteArray := prog_1_method_49_code
def yX4_outside : MethodName := ⟨RX4, "outside", "(III)I"⟩
abbrev cX4_isNeither : ByteArray := prog_1_method_50_code
def yX4_isNeither : MethodName := ⟨RX4, "isNeither", "(I)Z"⟩
abbrev cX4_isPlace : ByteArray := prog_1_method_51_code
def yX4_isPlace : MethodName := ⟨RX4, "isPlace", "(I)Z"⟩
abbrev cX4_has : ByteArray := prog_1_method_52_code
def yX4_has : MethodName := ⟨RX4, "has", "(II)Z"⟩
abbrev cX4_power : ByteArray := prog_1_method_53_code
def yX4_power : MethodName := ⟨RX4, "power", "(II)J"⟩
abbrev cX4_commonDivisor : ByteArray := prog_1_method_54_code
def yX4_commonDivisor : MethodName := ⟨RX4, "commonDivisor", "(JJ)J"⟩
def RX5 : String := "LeansAgainstReasonModel"
def TX5 : u_T := fun k => match k with
  | 0 => ("LeansAgainstReasonModel", "s", "[I", true)
  | 1 => ("LeansAgainstReasonModel", "m", "[I", true)
  | 2 => ("LeansAgainstReasonModel", "image", "[I", true)
  | 3 => ("LeansAgainstReasonModel", "was", "[I", true)
  | 4 => ("LeansAgainstReasonModel", "less", "[I", true)
  | 5 => ("LeansAgainstReasonModel", "hasImage", "Z", false)
  | 6 => ("LeansAgainstReasonModel", "letters", "[I", true)
  | 7 => ("LeansAgainstReasonModel", "row", "[I", true)
  | 8 => ("LeansAgainstReasonModel", "refused", "[I", true)
  | 9 => ("LeansAgainstReasonModel", "letterMany", "I", false)
  | 10 => ("LeansAgainstReasonModel", "rowMany", "I", false)
  | 11 => ("LeansAgainstReasonModel", "place", "I", false)
  | 12 => ("LeansAgainstReasonModel", "numbers", "[I", true)
  | _ => ("LeansAgainstReasonModel", "seed", "I", false)
def tyX5 : Nat → FieldType := fun k => match k with
  | 0 => .array .int
  | 1 => .array .int
  | 2 => .array .int
  | 3 => .array .int
  | 4 => .array .int
  | 5 => .boolean
  | 6 => .array .int
  | 7 => .array .int
  | 8 => .array .int
  | 9 => .int
  | 10 => .int
  | 11 => .int
  | 12 => .array .int
  | _ => .int
abbrev wsX50 : List Cond := u_ws RX5 TX5 14
theorem nmX5 : ∀ a, a < 14 → ∀ b, b < 14 → a ≠ b → (TX5 a).2.1 ≠ (TX5 b).2.1 := by decide +kernel
theorem tyX5_ok : ∀ k, k < 14 → parseFieldDescriptor (TX5 k).2.2.1 = some (tyX5 k) := by decide +kernel
abbrev cX5_init : ByteArray := prog_7_method_1_code
def yX5_init : MethodName := ⟨RX5, "<init>", "()V"⟩
abbrev cX5_isIn : ByteArray := prog_7_method_2_code
def yX5_isIn : MethodName := ⟨RX5, "isIn", "(III)Z"⟩
abbrev cX5_most : ByteArray := prog_7_method_3_code
def yX5_most : MethodName := ⟨RX5, "most", "(II)I"⟩
abbrev cX5_copies : ByteArray := prog_7_method_4_code
def yX5_copies : MethodName := ⟨RX5, "copies", "([I[I)V"⟩
abbrev cX5_no : ByteArray := prog_7_method_5_code
def yX5_no : MethodName := ⟨RX5, "no", "(I)I"⟩
abbrev cX5_noFar : ByteArray := prog_7_method_6_code
def yX5_noFar : MethodName := ⟨RX5, "noFar", "(I)I"⟩
abbrev cX5_noWide : ByteArray := prog_7_method_7_code
def yX5_noWide : MethodName := ⟨RX5, "noWide", "(I)J"⟩
abbrev cX5_ofP : ByteArray := prog_7_method_8_code
def yX5_ofP : MethodName := ⟨RX5, "ofP", "(I)I"⟩
abbrev cX5_ofT : ByteArray := prog_7_method_9_code
def yX5_ofT : MethodName := ⟨RX5, "ofT", "(I)I"⟩
abbrev cX5_isPurpose : ByteArray := prog_7_method_10_code
def yX5_isPurpose : MethodName := ⟨RX5, "isPurpose", "(I)Z"⟩
abbrev cX5_isThing : ByteArray := prog_7_method_11_code
def yX5_isThing : MethodName := ⟨RX5, "isThing", "(I)Z"⟩
abbrev cX5_isPlace : ByteArray := prog_7_method_12_code
def yX5_isPlace : MethodName := ⟨RX5, "isPlace", "(I)Z"⟩
abbrev cX5_isUp : ByteArray := prog_7_method_13_code
def yX5_isUp : MethodName := ⟨RX5, "isUp", "([II)Z"⟩
abbrev cX5_bits : ByteArray := prog_7_method_14_code
def yX5_bits : MethodName := ⟨RX5, "bits", "(I)I"⟩
abbrev cX5_loadOf : ByteArray := prog_7_method_15_code
def yX5_loadOf : MethodName := ⟨RX5, "loadOf", "([II)I"⟩
abbrev cX5_spareOf : ByteArray := prog_7_method_16_code
def yX5_spareOf : MethodName := ⟨RX5, "spareOf", "([II)I"⟩
abbrev cX5_lessBy : ByteArray := prog_7_method_17_code
def yX5_lessBy : MethodName := ⟨RX5, "lessBy", "([III)I"⟩
abbrev cX5_whoAt : ByteArray := prog_7_method_18_code
def yX5_whoAt : MethodName := ⟨RX5, "whoAt", "([II)I"⟩
abbrev cX5_fells : ByteArray := prog_7_method_19_code
def yX5_fells : MethodName := ⟨RX5, "fells", "([II)I"⟩
abbrev cX5_heaviestOn : ByteArray := prog_7_method_20_code
def yX5_heaviestOn : MethodName := ⟨RX5, "heaviestOn", "([II)I"⟩
abbrev cX5_day : ByteArray := prog_7_method_21_code
def yX5_day : MethodName := ⟨RX5, "day", "([I)V"⟩
abbrev cX5_daysOn : ByteArray := prog_7_method_22_code
def yX5_daysOn : MethodName := ⟨RX5, "daysOn", "([II)V"⟩
abbrev cX5_upSet : ByteArray := prog_7_method_23_code
def yX5_upSet : MethodName := ⟨RX5, "upSet", "([I)I"⟩
abbrev cX5_upIn : ByteArray := prog_7_method_24_code
def yX5_upIn : MethodName := ⟨RX5, "upIn", "(I)I"⟩
abbrev cX5_letter : ByteArray := prog_7_method_25_code
def yX5_letter : MethodName := ⟨RX5, "letter", "(I)I"⟩
abbrev cX5_here : ByteArray := prog_7_method_26_code
def yX5_here : MethodName := ⟨RX5, "here", "()I"⟩
abbrev cX5_readsNumber : ByteArray := prog_7_method_27_code
def yX5_readsNumber : MethodName := ⟨RX5, "readsNumber", "(II)Z"⟩
abbrev cX5_kindBy : ByteArray := prog_7_method_28_code
def yX5_kindBy : MethodName := ⟨RX5, "kindBy", "(I)I"⟩
abbrev cX5_readsKind : ByteArray := prog_7_method_29_code
def yX5_readsKind : MethodName := ⟨RX5, "readsKind", "()Z"⟩
abbrev cX5_readsStatement : ByteArray := prog_7_method_30_code
def yX5_readsStatement : MethodName := ⟨RX5, "readsStatement", "()Z"⟩
abbrev cX5_addsPurpose : ByteArray := prog_7_method_31_code
def yX5_addsPurpose : MethodName := ⟨RX5, "addsPurpose", "(III)Z"⟩
abbrev cX5_addsThing : ByteArray := prog_7_method_32_code
def yX5_addsThing : MethodName := ⟨RX5, "addsThing", "(III)Z"⟩
abbrev cX5_isDone : ByteArray := prog_7_method_33_code
def yX5_isDone : MethodName := ⟨RX5, "isDone", "(I)Z"⟩
abbrev cX5_rack : ByteArray := prog_7_method_34_code
def yX5_rack : MethodName := ⟨RX5, "rack", "()I"⟩
abbrev cX5_purpose : ByteArray := prog_7_method_35_code
def yX5_purpose : MethodName := ⟨RX5, "purpose", "(II)I"⟩
abbrev cX5_spare : ByteArray := prog_7_method_36_code
def yX5_spare : MethodName := ⟨RX5, "spare", "(I)I"⟩
abbrev cX5_thing : ByteArray := prog_7_method_37_code
def yX5_thing : MethodName := ⟨RX5, "thing", "(II)I"⟩
abbrev cX5_at : ByteArray := prog_7_method_38_code
def yX5_at : MethodName := ⟨RX5, "at", "(I)I"⟩
abbrev cX5_leans : ByteArray := prog_7_method_39_code
def yX5_leans : MethodName := ⟨RX5, "leans", "(II)I"⟩
abbrev cX5_moves : ByteArray := prog_7_method_40_code
def yX5_moves : MethodName := ⟨RX5, "moves", "(II)I"⟩
abbrev cX5_setsUp : ByteArray := prog_7_method_41_code
def yX5_setsUp : MethodName := ⟨RX5, "setsUp", "(I)I"⟩
abbrev cX5_wrongUp : ByteArray := prog_7_method_42_code
def yX5_wrongUp : MethodName := ⟨RX5, "wrongUp", "(I)I"⟩
abbrev cX5_pushes : ByteArray := prog_7_method_43_code
def yX5_pushes : MethodName := ⟨RX5, "pushes", "(I)I"⟩
abbrev cX5_wrongBy : ByteArray := prog_7_method_44_code
def yX5_wrongBy : MethodName := ⟨RX5, "wrongBy", "(II)I"⟩
abbrev cX5_strong : ByteArray := prog_7_method_45_code
def yX5_strong : MethodName := ⟨RX5, "strong", "(II)I"⟩
abbrev cX5_turn : ByteArray := prog_7_method_46_code
def yX5_turn : MethodName := ⟨RX5, "turn", "(III)I"⟩
abbrev cX5_days : ByteArray := prog_7_method_47_code
def yX5_days : MethodName := ⟨RX5, "days", "(I)I"⟩
abbrev cX5_takesOn : ByteArray := prog_7_method_48_code
def yX5_takesOn : MethodName := ⟨RX5, "takesOn", "(I)V"⟩
abbrev cX5_upThen : ByteArray := prog_7_method_49_code
def yX5_upThen : MethodName := ⟨RX5, "upThen", "(II)I"⟩
abbrev cX5_allThen : ByteArray := prog_7_method_50_code
def yX5_allThen : MethodName := ⟨RX5, "allThen", "(I)I"⟩
abbrev cX5_purposeThen : ByteArray := prog_7_method_51_code
def yX5_purposeThen : MethodName := ⟨RX5, "purposeThen", "(III)I"⟩
abbrev cX5_downIn : ByteArray := prog_7_method_52_code
def yX5_downIn : MethodName := ⟨RX5, "downIn", "(IZ)I"⟩
abbrev cX5_fallsOf : ByteArray := prog_7_method_53_code
def yX5_fallsOf : MethodName := ⟨RX5, "fallsOf", "(I)I"⟩
abbrev cX5_falls : ByteArray := prog_7_method_54_code
def yX5_falls : MethodName := ⟨RX5, "falls", "(I)I"⟩
abbrev cX5_first : ByteArray := prog_7_method_55_code
def yX5_first : MethodName := ⟨RX5, "first", "(I)I"⟩
abbrev cX5_pushedBy : ByteArray := prog_7_method_56_code
def yX5_pushedBy : MethodName := ⟨RX5, "pushedBy", "(I)I"⟩
abbrev cX5_pushed : ByteArray := prog_7_method_57_code
def yX5_pushed : MethodName := ⟨RX5, "pushed", "(I)I"⟩
abbrev cX5_worst : ByteArray := prog_7_method_58_code
def yX5_worst : MethodName := ⟨RX5, "worst", "(I)I"⟩
abbrev cX5_gap : ByteArray := prog_7_method_59_code
def yX5_gap : MethodName := ⟨RX5, "gap", "(I)I"⟩
abbrev cX5_longest : ByteArray := prog_7_method_60_code
def yX5_longest : MethodName := ⟨RX5, "longest", "(I)I"⟩
abbrev cX5_orNever : ByteArray := prog_7_method_61_code
def yX5_orNever : MethodName := ⟨RX5, "orNever", "(I)I"⟩
abbrev cX5_lean : ByteArray := prog_7_method_62_code
def yX5_lean : MethodName := ⟨RX5, "lean", "(I)I"⟩
abbrev cX5_bestLeans : ByteArray := prog_7_method_63_code
def yX5_bestLeans : MethodName := ⟨RX5, "bestLeans", "(IIIII)I"⟩
abbrev cX5_upWith : ByteArray := prog_7_method_64_code
def yX5_upWith : MethodName := ⟨RX5, "upWith", "(III)I"⟩
abbrev cX5_mended : ByteArray := prog_7_method_65_code
def yX5_mended : MethodName := ⟨RX5, "mended", "(I)I"⟩
abbrev cX5_key : ByteArray := prog_7_method_66_code
def yX5_key : MethodName := ⟨RX5, "key", "(I)I"⟩
abbrev cX5_takes : ByteArray := prog_7_method_67_code
def yX5_takes : MethodName := ⟨RX5, "takes", "(II)I"⟩
abbrev cX5_weightOf : ByteArray := prog_7_method_68_code
def yX5_weightOf : MethodName := ⟨RX5, "weightOf", "(I)I"⟩
abbrev cX5_balanced : ByteArray := prog_7_method_69_code
def yX5_balanced : MethodName := ⟨RX5, "balanced", "(II)I"⟩
abbrev cX5_leastToPush : ByteArray := prog_7_method_70_code
def yX5_leastToPush : MethodName := ⟨RX5, "leastToPush", "([IZ)I"⟩
abbrev cX5_pushesLeast : ByteArray := prog_7_method_71_code
def yX5_pushesLeast : MethodName := ⟨RX5, "pushesLeast", "(Z)V"⟩
abbrev cX5_thief : ByteArray := prog_7_method_72_code
def yX5_thief : MethodName := ⟨RX5, "thief", "(I)I"⟩
abbrev cX5_robbed : ByteArray := prog_7_method_73_code
def yX5_robbed : MethodName := ⟨RX5, "robbed", "()I"⟩
abbrev cX5_bestPlace : ByteArray := prog_7_method_74_code
def yX5_bestPlace : MethodName := ⟨RX5, "bestPlace", "(II)I"⟩
abbrev cX5_gcd : ByteArray := prog_7_method_75_code
def yX5_gcd : MethodName := ⟨RX5, "gcd", "(JJ)J"⟩
abbrev cX5_partOf : ByteArray := prog_7_method_76_code
def yX5_partOf : MethodName := ⟨RX5, "partOf", "(JJI)J"⟩
abbrev cX5_draught : ByteArray := prog_7_method_77_code
def yX5_draught : MethodName := ⟨RX5, "draught", "(IIII)J"⟩
abbrev cX5_upPushed : ByteArray := prog_7_method_78_code
def yX5_upPushed : MethodName := ⟨RX5, "upPushed", "(IIIII)I"⟩
abbrev cX5_two : ByteArray := prog_7_method_79_code
def yX5_two : MethodName := ⟨RX5, "two", "(III)I"⟩
abbrev cX5_whatWas : ByteArray := prog_7_method_80_code
def yX5_whatWas : MethodName := ⟨RX5, "whatWas", "(II)I"⟩
abbrev cX5_row : ByteArray := prog_7_method_81_code
def yX5_row : MethodName := ⟨RX5, "row", "(I)I"⟩
abbrev cX5_judge : ByteArray := prog_7_method_82_code
def yX5_judge : MethodName := ⟨RX5, "judge", "()I"⟩
abbrev cX5_clear : ByteArray := prog_7_method_83_code
def yX5_clear : MethodName := ⟨RX5, "clear", "()I"⟩
abbrev cX5_drawn : ByteArray := prog_7_method_84_code
def yX5_drawn : MethodName := ⟨RX5, "drawn", "(I)I"⟩
abbrev cX5_strengthAll : ByteArray := prog_7_method_85_code
def yX5_strengthAll : MethodName := ⟨RX5, "strengthAll", "([I)I"⟩
abbrev cX5_lots : ByteArray := prog_7_method_86_code
def yX5_lots : MethodName := ⟨RX5, "lots", "(III)I"⟩
abbrev cX5_image : ByteArray := prog_7_method_87_code
def yX5_image : MethodName := ⟨RX5, "image", "()I"⟩
abbrev cX5_on : ByteArray := prog_7_method_88_code
def yX5_on : MethodName := ⟨RX5, "on", "()I"⟩
abbrev cX5_count : ByteArray := prog_7_method_89_code
def yX5_count : MethodName := ⟨RX5, "count", "(I)I"⟩
def RJx145de : String := "java/io/Serializable"
def TJx145de : u_T := fun k => match k with
  | _ => ("", "", "", false)
def tyJx145de : Nat → FieldType := fun k => match k with
  | _ => .int
abbrev wsJx145de0 : List Cond := u_ws RJx145de TJx145de 0
theorem nmJx145de : ∀ a, a < 0 → ∀ b, b < 0 → a ≠ b → (TJx145de a).2.1 ≠ (TJx145de b).2.1 := by decide +kernel
theorem tyJx145de_ok : ∀ k, k < 0 → parseFieldDescriptor (TJx145de k).2.2.1 = some (tyJx145de k) := by decide +kernel
def RJx9f9b0 : String := "java/lang/CharSequence"
def TJx9f9b0 : u_T := fun k => match k with
  | _ => ("", "", "", false)
def tyJx9f9b0 : Nat → FieldType := fun k => match k with
  | _ => .int
abbrev wsJx9f9b00 : List Cond := u_ws RJx9f9b0 TJx9f9b0 0
theorem nmJx9f9b0 : ∀ a, a < 0 → ∀ b, b < 0 → a ≠ b → (TJx9f9b0 a).2.1 ≠ (TJx9f9b0 b).2.1 := by decide +kernel
theorem tyJx9f9b0_ok : ∀ k, k < 0 → parseFieldDescriptor (TJx9f9b0 k).2.2.1 = some (tyJx9f9b0 k) := by decide +kernel
def RJ11 : String := "java/lang/Character"
def TJ11 : u_T := fun k => match k with
  | _ => ("", "", "", false)
def tyJ11 : Nat → FieldType := fun k => match k with
  | _ => .int
abbrev wsJ110 : List Cond := u_ws RJ11 TJ11 0
theorem nmJ11 : ∀ a, a < 0 → ∀ b, b < 0 → a ≠ b → (TJ11 a).2.1 ≠ (TJ11 b).2.1 := by decide +kernel
theorem tyJ11_ok : ∀ k, k < 0 → parseFieldDescriptor (TJ11 k).2.2.1 = some (tyJ11 k) := by decide +kernel
abbrev cJ11_isValidCodePoint_9a6ad : ByteArray := prog_8_method_11_code
def yJ11_isValidCodePoint_9a6ad : MethodName := ⟨RJ11, "isValidCodePoint", "(I)Z"⟩
abbrev cJ11_highSurrogate_5068e : ByteArray := prog_8_method_28_code
def yJ11_highSurrogate_5068e : MethodName := ⟨RJ11, "highSurrogate", "(I)C"⟩
abbrev cJ11_lowSurrogate_5068e : ByteArray := prog_8_method_29_code
def yJ11_lowSurrogate_5068e : MethodName := ⟨RJ11, "lowSurrogate", "(I)C"⟩
def RJxb160c : String := "java/lang/Comparable"
def TJxb160c : u_T := fun k => match k with
  | _ => ("", "", "", false)
def tyJxb160c : Nat → FieldType := fun k => match k with
  | _ => .int
abbrev wsJxb160c0 : List Cond := u_ws RJxb160c TJxb160c 0
theorem nmJxb160c : ∀ a, a < 0 → ∀ b, b < 0 → a ≠ b → (TJxb160c a).2.1 ≠ (TJxb160c b).2.1 := by decide +kernel
theorem tyJxb160c_ok : ∀ k, k < 0 → parseFieldDescriptor (TJxb160c k).2.2.1 = some (tyJxb160c k) := by decide +kernel
def RJ6 : String := "java/lang/Integer"
def TJ6 : u_T := fun k => match k with
  | _ => ("", "", "", false)
def tyJ6 : Nat → FieldType := fun k => match k with
  | _ => .int
abbrev wsJ60 : List Cond := u_ws RJ6 TJ6 0
theorem nmJ6 : ∀ a, a < 0 → ∀ b, b < 0 → a ≠ b → (TJ6 a).2.1 ≠ (TJ6 b).2.1 := by decide +kernel
theorem tyJ6_ok : ∀ k, k < 0 → parseFieldDescriptor (TJ6 k).2.2.1 = some (tyJ6 k) := by decide +kernel
abbrev cJ6_bitCount_0f7a4 : ByteArray := prog_9_method_49_code
def yJ6_bitCount_0f7a4 : MethodName := ⟨RJ6, "bitCount", "(I)I"⟩
def RJ9 : String := "java/lang/Math"
def TJ9 : u_T := fun k => match k with
  | _ => ("", "", "", false)
def tyJ9 : Nat → FieldType := fun k => match k with
  | _ => .int
abbrev wsJ90 : List Cond := u_ws RJ9 TJ9 0
theorem nmJ9 : ∀ a, a < 0 → ∀ b, b < 0 → a ≠ b → (TJ9 a).2.1 ≠ (TJ9 b).2.1 := by decide +kernel
theorem tyJ9_ok : ∀ k, k < 0 → parseFieldDescriptor (TJ9 k).2.2.1 = some (tyJ9 k) := by decide +kernel
abbrev cJ9_max_7cf53 : ByteArray := prog_10_method_65_code
def yJ9_max_7cf53 : MethodName := ⟨RJ9, "max", "(II)I"⟩
abbrev cJ9_min_7cf53 : ByteArray := prog_10_method_69_code
def yJ9_min_7cf53 : MethodName := ⟨RJ9, "min", "(II)I"⟩
def RJ0 : String := "java/lang/String"
def TJ0 : u_T := fun k => match k with
  | _ => ("", "", "", false)
def tyJ0 : Nat → FieldType := fun k => match k with
  | _ => .int
abbrev wsJ00 : List Cond := u_ws RJ0 TJ0 0
theorem nmJ0 : ∀ a, a < 0 → ∀ b, b < 0 → a ≠ b → (TJ0 a).2.1 ≠ (TJ0 b).2.1 := by decide +kernel
theorem tyJ0_ok : ∀ k, k < 0 → parseFieldDescriptor (TJ0 k).2.2.1 = some (tyJ0 k) := by decide +kernel
abbrev cJ0_length_8abf5 : ByteArray := prog_11_method_54_code
def yJ0_length_8abf5 : MethodName := ⟨RJ0, "length", "()I"⟩
abbrev cJ0_charAt_5068e : ByteArray := prog_11_method_56_code
def yJ0_charAt_5068e : MethodName := ⟨RJ0, "charAt", "(I)C"⟩
abbrev cJ0_indexOf_0f7a4 : ByteArray := prog_11_method_79_code
def yJ0_indexOf_0f7a4 : MethodName := ⟨RJ0, "indexOf", "(I)I"⟩
abbrev cJ0_indexOf_7cf53 : ByteArray := prog_11_method_80_code
def yJ0_indexOf_7cf53 : MethodName := ⟨RJ0, "indexOf", "(II)I"⟩
abbrev cJ0_coder_7d493 : ByteArray := prog_11_method_152_code
def yJ0_coder_7d493 : MethodName := ⟨RJ0, "coder", "()B"⟩
abbrev cJ0_isLatin1_aae02 : ByteArray := prog_11_method_154_code
def yJ0_isLatin1_aae02 : MethodName := ⟨RJ0, "isLatin1", "()Z"⟩
abbrev cJ0_checkIndex_df160 : ByteArray := prog_11_method_155_code
def yJ0_checkIndex_df160 : MethodName := ⟨RJ0, "checkIndex", "(II)V"⟩
abbrev cJ0_checkBoundsBeginEnd_23922 : ByteArray := prog_11_method_158_code
def yJ0_checkBoundsBeginEnd_23922 : MethodName := ⟨RJ0, "checkBoundsBeginEnd", "(III)V"⟩
def RJ1 : String := "java/lang/StringLatin1"
def TJ1 : u_T := fun k => match k with
  | _ => ("", "", "", false)
def tyJ1 : Nat → FieldType := fun k => match k with
  | _ => .int
abbrev wsJ10 : List Cond := u_ws RJ1 TJ1 0
theorem nmJ1 : ∀ a, a < 0 → ∀ b, b < 0 → a ≠ b → (TJ1 a).2.1 ≠ (TJ1 b).2.1 := by decide +kernel
theorem tyJ1_ok : ∀ k, k < 0 → parseFieldDescriptor (TJ1 k).2.2.1 = some (tyJ1 k) := by decide +kernel
abbrev cJ1_charAt_3b067 : ByteArray := prog_12_method_2_code
def yJ1_charAt_3b067 : MethodName := ⟨RJ1, "charAt", "([BI)C"⟩
abbrev cJ1_canEncode_9a6ad : ByteArray := prog_12_method_4_code
def yJ1_canEncode_9a6ad : MethodName := ⟨RJ1, "canEncode", "(I)Z"⟩
abbrev cJ1_indexOf_4cfef : ByteArray := prog_12_method_22_code
def yJ1_indexOf_4cfef : MethodName := ⟨RJ1, "indexOf", "([BIII)I"⟩
abbrev cJ1_indexOfChar_4cfef : ByteArray := prog_12_method_23_code
def yJ1_indexOfChar_4cfef : MethodName := ⟨RJ1, "indexOfChar", "([BIII)I"⟩
def RJ2 : String := "java/lang/StringUTF16"
def TJ2 : u_T := fun k => match k with
  | _ => ("", "", "", false)
def tyJ2 : Nat → FieldType := fun k => match k with
  | _ => .int
abbrev wsJ20 : List Cond := u_ws RJ2 TJ2 0
theorem nmJ2 : ∀ a, a < 0 → ∀ b, b < 0 → a ≠ b → (TJ2 a).2.1 ≠ (TJ2 b).2.1 := by decide +kernel
theorem tyJ2_ok : ∀ k, k < 0 → parseFieldDescriptor (TJ2 k).2.2.1 = some (tyJ2 k) := by decide +kernel
abbrev cJ2_getChar_3b067 : ByteArray := prog_13_method_5_code
def yJ2_getChar_3b067 : MethodName := ⟨RJ2, "getChar", "([BI)C"⟩
abbrev cJ2_length_9d52b : ByteArray := prog_13_method_6_code
def yJ2_length_9d52b : MethodName := ⟨RJ2, "length", "([B)I"⟩
abbrev cJ2_indexOf_4cfef : ByteArray := prog_13_method_40_code
def yJ2_indexOf_4cfef : MethodName := ⟨RJ2, "indexOf", "([BIII)I"⟩
abbrev cJ2_indexOfChar_4cfef : ByteArray := prog_13_method_47_code
def yJ2_indexOfChar_4cfef : MethodName := ⟨RJ2, "indexOfChar", "([BIII)I"⟩
abbrev cJ2_indexOfCharUnsafe_4cfef : ByteArray := prog_13_method_48_code
def yJ2_indexOfCharUnsafe_4cfef : MethodName := ⟨RJ2, "indexOfCharUnsafe", "([BIII)I"⟩
abbrev cJ2_indexOfSupplementary_4cfef : ByteArray := prog_13_method_49_code
def yJ2_indexOfSupplementary_4cfef : MethodName := ⟨RJ2, "indexOfSupplementary", "([BIII)I"⟩
abbrev cJ2_charAt_3b067 : ByteArray := prog_13_method_83_code
def yJ2_charAt_3b067 : MethodName := ⟨RJ2, "charAt", "([BI)C"⟩
abbrev cJ2_checkIndex_2214a : ByteArray := prog_13_method_91_code
def yJ2_checkIndex_2214a : MethodName := ⟨RJ2, "checkIndex", "(I[B)V"⟩
abbrev cJ2_checkBoundsBeginEnd_d044e : ByteArray := prog_13_method_93_code
def yJ2_checkBoundsBeginEnd_d044e : MethodName := ⟨RJ2, "checkBoundsBeginEnd", "(II[B)V"⟩
def RJ10 : String := "java/lang/System"
def TJ10 : u_T := fun k => match k with
  | _ => ("", "", "", false)
def tyJ10 : Nat → FieldType := fun k => match k with
  | _ => .int
abbrev wsJ100 : List Cond := u_ws RJ10 TJ10 0
theorem nmJ10 : ∀ a, a < 0 → ∀ b, b < 0 → a ≠ b → (TJ10 a).2.1 ≠ (TJ10 b).2.1 := by decide +kernel
theorem tyJ10_ok : ∀ k, k < 0 → parseFieldDescriptor (TJ10 k).2.2.1 = some (tyJ10 k) := by decide +kernel
def RJxfd54e : String := "java/lang/constant/Constable"
def TJxfd54e : u_T := fun k => match k with
  | _ => ("", "", "", false)
def tyJxfd54e : Nat → FieldType := fun k => match k with
  | _ => .int
abbrev wsJxfd54e0 : List Cond := u_ws RJxfd54e TJxfd54e 0
theorem nmJxfd54e : ∀ a, a < 0 → ∀ b, b < 0 → a ≠ b → (TJxfd54e a).2.1 ≠ (TJxfd54e b).2.1 := by decide +kernel
theorem tyJxfd54e_ok : ∀ k, k < 0 → parseFieldDescriptor (TJxfd54e k).2.2.1 = some (tyJxfd54e k) := by decide +kernel
def RJx3cf43 : String := "java/lang/constant/ConstantDesc"
def TJx3cf43 : u_T := fun k => match k with
  | _ => ("", "", "", false)
def tyJx3cf43 : Nat → FieldType := fun k => match k with
  | _ => .int
abbrev wsJx3cf430 : List Cond := u_ws RJx3cf43 TJx3cf43 0
theorem nmJx3cf43 : ∀ a, a < 0 → ∀ b, b < 0 → a ≠ b → (TJx3cf43 a).2.1 ≠ (TJx3cf43 b).2.1 := by decide +kernel
theorem tyJx3cf43_ok : ∀ k, k < 0 → parseFieldDescriptor (TJx3cf43 k).2.2.1 = some (tyJx3cf43 k) := by decide +kernel
def RJ7 : String := "java/util/Arrays"
def TJ7 : u_T := fun k => match k with
  | _ => ("", "", "", false)
def tyJ7 : Nat → FieldType := fun k => match k with
  | _ => .int
abbrev wsJ70 : List Cond := u_ws RJ7 TJ7 0
theorem nmJ7 : ∀ a, a < 0 → ∀ b, b < 0 → a ≠ b → (TJ7 a).2.1 ≠ (TJ7 b).2.1 := by decide +kernel
theorem tyJ7_ok : ∀ k, k < 0 → parseFieldDescriptor (TJ7 k).2.2.1 = some (tyJ7 k) := by decide +kernel
abbrev cJ7_fill_53178 : ByteArray := prog_15_method_103_code
def yJ7_fill_53178 : MethodName := ⟨RJ7, "fill", "([II)V"⟩
def RJ3 : String := "jdk/internal/util/Preconditions"
def TJ3 : u_T := fun k => match k with
  | _ => ("", "", "", false)
def tyJ3 : Nat → FieldType := fun k => match k with
  | _ => .int
abbrev wsJ30 : List Cond := u_ws RJ3 TJ3 0
theorem nmJ3 : ∀ a, a < 0 → ∀ b, b < 0 → a ≠ b → (TJ3 a).2.1 ≠ (TJ3 b).2.1 := by decide +kernel
theorem tyJ3_ok : ∀ k, k < 0 → parseFieldDescriptor (TJ3 k).2.2.1 = some (tyJ3 k) := by decide +kernel
abbrev cJ3_checkIndex_8e157 : ByteArray := prog_16_method_11_code
def yJ3_checkIndex_8e157 : MethodName := ⟨RJ3, "checkIndex", "(IILjava/util/function/BiFunction;)I"⟩
abbrev cJ3_checkFromToIndex_8c36e : ByteArray := prog_16_method_12_code
def yJ3_checkFromToIndex_8c36e : MethodName := ⟨RJ3, "checkFromToIndex", "(IIILjava/util/function/BiFunction;)I"⟩
def RL : String := "LeansAgainstReasonLaw"
abbrev cL_law : ByteArray := code
def yL_law : MethodName := ⟨RL, "law", "([I)Z"⟩
theorem dX0_init_0 : decode cX0_init 0 = .ok (.aload_n 0, 1) := by decide +kernel
theorem dX0_init_1 : decode cX0_init 1 = .ok (.invokespecial 3, 3) := by decide +kernel
theorem dX0_init_4 : decode cX0_init 4 = .ok (.aload_n 0, 1) := by decide +kernel
theorem dX0_init_5 : decode cX0_init 5 = .ok (.bipush 96, 2) := by decide +kernel
theorem dX0_init_7 : decode cX0_init 7 = .ok (.newarray .int, 2) := by decide +kernel
theorem dX0_init_9 : decode cX0_init 9 = .ok (.putfield 9, 3) := by decide +kernel
theorem dX0_init_12 : decode cX0_init 12 = .ok (.return_, 1) := by decide +kernel
theorem dX1_init_0 : decode cX1_init 0 = .ok (.aload_n 0, 1) := by decide +kernel
theorem dX1_init_1 : decode cX1_init 1 = .ok (.invokespecial 3, 3) := by decide +kernel
theorem dX1_init_4 : decode cX1_init 4 = .ok (.aload_n 0, 1) := by decide +kernel
theorem dX1_init_5 : decode cX1_init 5 = .ok (.new 9, 3) := by decide +kernel
theorem dX1_init_8 : decode cX1_init 8 = .ok (.dup, 1) := by decide +kernel
theorem dX1_init_9 : decode cX1_init 9 = .ok (.invokespecial 11, 3) := by decide +kernel
theorem dX1_init_12 : decode cX1_init 12 = .ok (.putfield 12, 3) := by decide +kernel
theorem dX1_init_15 : decode cX1_init 15 = .ok (.aload_n 0, 1) := by decide +kernel
theorem dX1_init_16 : decode cX1_init 16 = .ok (.new 9, 3) := by decide +kernel
theorem dX1_init_19 : decode cX1_init 19 = .ok (.dup, 1) := by decide +kernel
theorem dX1_init_20 : decode cX1_init 20 = .ok (.invokespecial 11, 3) := by decide +kernel
theorem dX1_init_23 : decode cX1_init 23 = .ok (.putfield 18, 3) := by decide +kernel
theorem dX1_init_26 : decode cX1_init 26 = .ok (.aload_n 0, 1) := by decide +kernel
theorem dX1_init_27 : decode cX1_init 27 = .ok (.iconst 4, 1) := by decide +kernel
theorem dX1_init_28 : decode cX1_init 28 = .ok (.newarray .int, 2) := by decide +kernel
theorem dX1_init_30 : decode cX1_init 30 = .ok (.putfield 21, 3) := by decide +kernel
theorem dX1_init_33 : decode cX1_init 33 = .ok (.return_, 1) := by decide +kernel
theorem dX2_init_0 : decode cX2_init 0 = .ok (.aload_n 0, 1) := by decide +kernel
theorem dX2_init_1 : decode cX2_init 1 = .ok (.invokespecial 3, 3) := by decide +kernel
theorem dX2_init_4 : decode cX2_init 4 = .ok (.aload_n 0, 1) := by decide +kernel
theorem dX2_init_5 : decode cX2_init 5 = .ok (.iconst 5, 1) := by decide +kernel
theorem dX2_init_6 : decode cX2_init 6 = .ok (.newarray .int, 2) := by decide +kernel
theorem dX2_init_8 : decode cX2_init 8 = .ok (.putfield 9, 3) := by decide +kernel
theorem dX2_init_11 : decode cX2_init 11 = .ok (.aload_n 0, 1) := by decide +kernel
theorem dX2_init_12 : decode cX2_init 12 = .ok (.iconst 5, 1) := by decide +kernel
theorem dX2_init_13 : decode cX2_init 13 = .ok (.newarray .int, 2) := by decide +kernel
theorem dX2_init_15 : decode cX2_init 15 = .ok (.putfield 15, 3) := by decide +kernel
theorem dX2_init_18 : decode cX2_init 18 = .ok (.aload_n 0, 1) := by decide +kernel
theorem dX2_init_19 : decode cX2_init 19 = .ok (.iconst 5, 1) := by decide +kernel
theorem dX2_init_20 : decode cX2_init 20 = .ok (.newarray .int, 2) := by decide +kernel
theorem dX2_init_22 : decode cX2_init 22 = .ok (.putfield 18, 3) := by decide +kernel
theorem dX2_init_25 : decode cX2_init 25 = .ok (.aload_n 0, 1) := by decide +kernel
theorem dX2_init_26 : decode cX2_init 26 = .ok (.iconst 5, 1) := by decide +kernel
theorem dX2_init_27 : decode cX2_init 27 = .ok (.newarray .int, 2) := by decide +kernel
theorem dX2_init_29 : decode cX2_init 29 = .ok (.putfield 21, 3) := by decide +kernel
theorem dX2_init_32 : decode cX2_init 32 = .ok (.aload_n 0, 1) := by decide +kernel
theorem dX2_init_33 : decode cX2_init 33 = .ok (.bipush 10, 2) := by decide +kernel
theorem dX2_init_35 : decode cX2_init 35 = .ok (.newarray .int, 2) := by decide +kernel
theorem dX2_init_37 : decode cX2_init 37 = .ok (.putfield 24, 3) := by decide +kernel
theorem dX2_init_40 : decode cX2_init 40 = .ok (.aload_n 0, 1) := by decide +kernel
theorem dX2_init_41 : decode cX2_init 41 = .ok (.bipush 10, 2) := by decide +kernel
theorem dX2_init_43 : decode cX2_init 43 = .ok (.newarray .int, 2) := by decide +kernel
theorem dX2_init_45 : decode cX2_init 45 = .ok (.putfield 27, 3) := by decide +kernel
theorem dX2_init_48 : decode cX2_init 48 = .ok (.aload_n 0, 1) := by decide +kernel
theorem dX2_init_49 : decode cX2_init 49 = .ok (.bipush 10, 2) := by decide +kernel
theorem dX2_init_51 : decode cX2_init 51 = .ok (.newarray .int, 2) := by decide +kernel
theorem dX2_init_53 : decode cX2_init 53 = .ok (.putfield 30, 3) := by decide +kernel
theorem dX2_init_56 : decode cX2_init 56 = .ok (.aload_n 0, 1) := by decide +kernel
theorem dX2_init_57 : decode cX2_init 57 = .ok (.bipush 20, 2) := by decide +kernel
theorem dX2_init_59 : decode cX2_init 59 = .ok (.newarray .int, 2) := by decide +kernel
theorem dX2_init_61 : decode cX2_init 61 = .ok (.putfield 33, 3) := by decide +kernel
theorem dX2_init_64 : decode cX2_init 64 = .ok (.aload_n 0, 1) := by decide +kernel
theorem dX2_init_65 : decode cX2_init 65 = .ok (.getfield 33, 3) := by decide +kernel
theorem dX2_init_68 : decode cX2_init 68 = .ok (.bipush (-9), 2) := by decide +kernel
theorem dX2_init_70 : decode cX2_init 70 = .ok (.invokestatic 36, 3) := by decide +kernel
theorem dX2_init_73 : decode cX2_init 73 = .ok (.return_, 1) := by decide +kernel
theorem dX4_init_0 : decode cX4_init 0 = .ok (.aload_n 0, 1) := by decide +kernel
theorem dX4_init_1 : decode cX4_init 1 = .ok (.invokespecial 1, 3) := by decide +kernel
theorem dX4_init_4 : decode cX4_init 4 = .ok (.aload_n 0, 1) := by decide +kernel
theorem dX4_init_5 : decode cX4_init 5 = .ok (.new 7, 3) := by decide +kernel
theorem dX4_init_8 : decode cX4_init 8 = .ok (.dup, 1) := by decide +kernel
theorem dX4_init_9 : decode cX4_init 9 = .ok (.invokespecial 9, 3) := by decide +kernel
theorem dX4_init_12 : decode cX4_init 12 = .ok (.putfield 10, 3) := by decide +kernel
theorem dX4_init_15 : decode cX4_init 15 = .ok (.aload_n 0, 1) := by decide +kernel
theorem dX4_init_16 : decode cX4_init 16 = .ok (.aload_n 0, 1) := by decide +kernel
theorem dX4_init_17 : decode cX4_init 17 = .ok (.getfield 10, 3) := by decide +kernel
theorem dX4_init_20 : decode cX4_init 20 = .ok (.getfield 16, 3) := by decide +kernel
theorem dX4_init_23 : decode cX4_init 23 = .ok (.putfield 20, 3) := by decide +kernel
theorem dX4_init_26 : decode cX4_init 26 = .ok (.aload_n 0, 1) := by decide +kernel
theorem dX4_init_27 : decode cX4_init 27 = .ok (.new 21, 3) := by decide +kernel
theorem dX4_init_30 : decode cX4_init 30 = .ok (.dup, 1) := by decide +kernel
theorem dX4_init_31 : decode cX4_init 31 = .ok (.invokespecial 23, 3) := by decide +kernel
theorem dX4_init_34 : decode cX4_init 34 = .ok (.putfield 24, 3) := by decide +kernel
theorem dX4_init_37 : decode cX4_init 37 = .ok (.aload_n 0, 1) := by decide +kernel
theorem dX4_init_38 : decode cX4_init 38 = .ok (.new 28, 3) := by decide +kernel
theorem dX4_init_41 : decode cX4_init 41 = .ok (.dup, 1) := by decide +kernel
theorem dX4_init_42 : decode cX4_init 42 = .ok (.invokespecial 30, 3) := by decide +kernel
theorem dX4_init_45 : decode cX4_init 45 = .ok (.putfield 31, 3) := by decide +kernel
theorem dX4_init_48 : decode cX4_init 48 = .ok (.aload_n 0, 1) := by decide +kernel
theorem dX4_init_49 : decode cX4_init 49 = .ok (.iconst 0, 1) := by decide +kernel
theorem dX4_init_50 : decode cX4_init 50 = .ok (.putfield 34, 3) := by decide +kernel
theorem dX4_init_53 : decode cX4_init 53 = .ok (.aload_n 0, 1) := by decide +kernel
theorem dX4_init_54 : decode cX4_init 54 = .ok (.bipush 16, 2) := by decide +kernel
theorem dX4_init_56 : decode cX4_init 56 = .ok (.newarray .int, 2) := by decide +kernel
theorem dX4_init_58 : decode cX4_init 58 = .ok (.putfield 38, 3) := by decide +kernel
theorem dX4_init_61 : decode cX4_init 61 = .ok (.aload_n 0, 1) := by decide +kernel
theorem dX4_init_62 : decode cX4_init 62 = .ok (.iconst 0, 1) := by decide +kernel
theorem dX4_init_63 : decode cX4_init 63 = .ok (.putfield 42, 3) := by decide +kernel
theorem dX4_init_66 : decode cX4_init 66 = .ok (.aload_n 0, 1) := by decide +kernel
theorem dX4_init_67 : decode cX4_init 67 = .ok (.bipush 7, 2) := by decide +kernel
theorem dX4_init_69 : decode cX4_init 69 = .ok (.newarray .int, 2) := by decide +kernel
theorem dX4_init_71 : decode cX4_init 71 = .ok (.putfield 46, 3) := by decide +kernel
theorem dX4_init_74 : decode cX4_init 74 = .ok (.return_, 1) := by decide +kernel
theorem dX5_init_0 : decode cX5_init 0 = .ok (.aload_n 0, 1) := by decide +kernel
theorem dX5_init_1 : decode cX5_init 1 = .ok (.invokespecial 1, 3) := by decide +kernel
theorem dX5_init_4 : decode cX5_init 4 = .ok (.aload_n 0, 1) := by decide +kernel
theorem dX5_init_5 : decode cX5_init 5 = .ok (.bipush 58, 2) := by decide +kernel
theorem dX5_init_7 : decode cX5_init 7 = .ok (.newarray .int, 2) := by decide +kernel
theorem dX5_init_9 : decode cX5_init 9 = .ok (.putfield 9, 3) := by decide +kernel
theorem dX5_init_12 : decode cX5_init 12 = .ok (.aload_n 0, 1) := by decide +kernel
theorem dX5_init_13 : decode cX5_init 13 = .ok (.bipush 58, 2) := by decide +kernel
theorem dX5_init_15 : decode cX5_init 15 = .ok (.newarray .int, 2) := by decide +kernel
theorem dX5_init_17 : decode cX5_init 17 = .ok (.putfield 13, 3) := by decide +kernel
theorem dX5_init_20 : decode cX5_init 20 = .ok (.aload_n 0, 1) := by decide +kernel
theorem dX5_init_21 : decode cX5_init 21 = .ok (.bipush 58, 2) := by decide +kernel
theorem dX5_init_23 : decode cX5_init 23 = .ok (.newarray .int, 2) := by decide +kernel
theorem dX5_init_25 : decode cX5_init 25 = .ok (.putfield 16, 3) := by decide +kernel
theorem dX5_init_28 : decode cX5_init 28 = .ok (.aload_n 0, 1) := by decide +kernel
theorem dX5_init_29 : decode cX5_init 29 = .ok (.bipush 58, 2) := by decide +kernel
theorem dX5_init_31 : decode cX5_init 31 = .ok (.newarray .int, 2) := by decide +kernel
theorem dX5_init_33 : decode cX5_init 33 = .ok (.putfield 19, 3) := by decide +kernel
theorem dX5_init_36 : decode cX5_init 36 = .ok (.aload_n 0, 1) := by decide +kernel
theorem dX5_init_37 : decode cX5_init 37 = .ok (.iconst 5, 1) := by decide +kernel
theorem dX5_init_38 : decode cX5_init 38 = .ok (.newarray .int, 2) := by decide +kernel
theorem dX5_init_40 : decode cX5_init 40 = .ok (.putfield 22, 3) := by decide +kernel
theorem dX5_init_43 : decode cX5_init 43 = .ok (.aload_n 0, 1) := by decide +kernel
theorem dX5_init_44 : decode cX5_init 44 = .ok (.bipush 96, 2) := by decide +kernel
theorem dX5_init_46 : decode cX5_init 46 = .ok (.newarray .int, 2) := by decide +kernel
theorem dX5_init_48 : decode cX5_init 48 = .ok (.putfield 25, 3) := by decide +kernel
theorem dX5_init_51 : decode cX5_init 51 = .ok (.aload_n 0, 1) := by decide +kernel
theorem dX5_init_52 : decode cX5_init 52 = .ok (.bipush 16, 2) := by decide +kernel
theorem dX5_init_54 : decode cX5_init 54 = .ok (.newarray .int, 2) := by decide +kernel
theorem dX5_init_56 : decode cX5_init 56 = .ok (.putfield 28, 3) := by decide +kernel
theorem dX5_init_59 : decode cX5_init 59 = .ok (.aload_n 0, 1) := by decide +kernel
theorem dX5_init_60 : decode cX5_init 60 = .ok (.bipush 7, 2) := by decide +kernel
theorem dX5_init_62 : decode cX5_init 62 = .ok (.newarray .int, 2) := by decide +kernel
theorem dX5_init_64 : decode cX5_init 64 = .ok (.putfield 31, 3) := by decide +kernel
theorem dX5_init_67 : decode cX5_init 67 = .ok (.aload_n 0, 1) := by decide +kernel
theorem dX5_init_68 : decode cX5_init 68 = .ok (.iconst 3, 1) := by decide +kernel
theorem dX5_init_69 : decode cX5_init 69 = .ok (.newarray .int, 2) := by decide +kernel
theorem dX5_init_71 : decode cX5_init 71 = .ok (.putfield 34, 3) := by decide +kernel
theorem dX5_init_74 : decode cX5_init 74 = .ok (.return_, 1) := by decide +kernel
theorem dJ7_fill_53178_0 : decode cJ7_fill_53178 0 = .ok (.iconst 0, 1) := by decide +kernel
theorem dJ7_fill_53178_1 : decode cJ7_fill_53178 1 = .ok (.istore_n 2, 1) := by decide +kernel
theorem dJ7_fill_53178_2 : decode cJ7_fill_53178 2 = .ok (.aload_n 0, 1) := by decide +kernel
theorem dJ7_fill_53178_3 : decode cJ7_fill_53178 3 = .ok (.arraylength, 1) := by decide +kernel
theorem dJ7_fill_53178_4 : decode cJ7_fill_53178 4 = .ok (.istore_n 3, 1) := by decide +kernel
theorem dJ7_fill_53178_5 : decode cJ7_fill_53178 5 = .ok (.iload_n 2, 1) := by decide +kernel
theorem dJ7_fill_53178_6 : decode cJ7_fill_53178 6 = .ok (.iload_n 3, 1) := by decide +kernel
theorem dJ7_fill_53178_7 : decode cJ7_fill_53178 7 = .ok (.if_icmp .ge 13, 3) := by decide +kernel
theorem dJ7_fill_53178_10 : decode cJ7_fill_53178 10 = .ok (.aload_n 0, 1) := by decide +kernel
theorem dJ7_fill_53178_11 : decode cJ7_fill_53178 11 = .ok (.iload_n 2, 1) := by decide +kernel
theorem dJ7_fill_53178_12 : decode cJ7_fill_53178 12 = .ok (.iload_n 1, 1) := by decide +kernel
theorem dJ7_fill_53178_13 : decode cJ7_fill_53178 13 = .ok (.iastore, 1) := by decide +kernel
theorem dJ7_fill_53178_14 : decode cJ7_fill_53178 14 = .ok (.iinc 2 1, 3) := by decide +kernel
theorem dJ7_fill_53178_17 : decode cJ7_fill_53178 17 = .ok (.goto (-12), 3) := by decide +kernel
theorem dJ7_fill_53178_20 : decode cJ7_fill_53178 20 = .ok (.return_, 1) := by decide +kernel
theorem dL_law_0 : decode cL_law 0 = .ok (.new 7, 3) := by decide +kernel
theorem dL_law_3 : decode cL_law 3 = .ok (.dup, 1) := by decide +kernel
theorem dL_law_4 : decode cL_law 4 = .ok (.invokespecial 9, 3) := by decide +kernel
theorem dL_law_7 : decode cL_law 7 = .ok (.astore_n 1, 1) := by decide +kernel
theorem dL_law_8 : decode cL_law 8 = .ok (.new 10, 3) := by decide +kernel
theorem dL_law_11 : decode cL_law 11 = .ok (.dup, 1) := by decide +kernel
theorem dL_law_12 : decode cL_law 12 = .ok (.invokespecial 12, 3) := by decide +kernel
theorem dL_law_15 : decode cL_law 15 = .ok (.astore_n 2, 1) := by decide +kernel
theorem dL_law_16 : decode cL_law 16 = .ok (.iconst 0, 1) := by decide +kernel
theorem dL_law_17 : decode cL_law 17 = .ok (.istore_n 3, 1) := by decide +kernel
theorem dL_law_18 : decode cL_law 18 = .ok (.iload_n 3, 1) := by decide +kernel
theorem dL_law_19 : decode cL_law 19 = .ok (.aload_n 0, 1) := by decide +kernel
theorem dL_law_20 : decode cL_law 20 = .ok (.arraylength, 1) := by decide +kernel
