def tbC (c : Nat) : List Cond := match c with
  | 0 => k2_sels lw_privs
  | 1 => tables_1_1
  | 2 => tables_1_2
  | 3 => tables_1_3
  | 4 => tables_1_4
  | _ => tables_1_5
theorem tbC_in0 (c : Nat) {w : Cond} (h : w ∈ tbC c) : w ∈ lw_tbl := by
  have e : lw_tbl = k2_sels lw_privs ++ (tables_1_1 ++ (tables_1_2 ++ (tables_1_3 ++ (tables_1_4 ++ tables_1_5)))) := rfl
  rw [e]
  unfold tbC at h
  split at h <;> simp only [List.mem_append] <;> simp only [h, true_or, or_true]
def wAt (p : Nat) (w : Cond) : Bool := decide ((tbC (p / 1000))[p % 1000]? = some w) && goodWord w
def wRaw (p : Nat) (w : Cond) : Bool := decide ((tbC (p / 1000))[p % 1000]? = some w)
theorem wRaw_in {p : Nat} {w : Cond} (h : wRaw p w = true) : w ∈ lw_tbl := tbC_in0 (p / 1000) (List.mem_of_getElem? (of_decide_eq_true h))
/-- the tables' words that may be handed on -/
def lwg : List Cond := lw_tbl.filter goodWord
theorem lwg_in {w : Cond} (h : w ∈ lwg) : w ∈ lw_tbl := (List.mem_filter.mp h).1
theorem lwg_all : lwg.all goodWord = true := List.all_eq_true.mpr fun _ h => (List.mem_filter.mp h).2
theorem wAt_in {p : Nat} {w : Cond} (h : wAt p w = true) : w ∈ lwg := by
  unfold wAt at h
  rw [Bool.and_eq_true] at h
  exact List.mem_filter.mpr ⟨tbC_in0 (p / 1000) (List.mem_of_getElem? (of_decide_eq_true h.1)), h.2⟩
def wCode (y : Nat) : Bool := wAt (wpT.getD y (0, (0, (0, 0)))).1 (.code (mN y) (mB y) (mL y) (mRt y))
def wFace (y : Nat) : Bool := wAt (wpT.getD y (0, (0, (0, 0)))).2.1 (.initialized (mN y).cls) &&
    (if mSt y = true then wAt (wpT.getD y (0, (0, (0, 0)))).2.2.1 (.static (mN y)) else wAt (wpT.getD y (0, (0, (0, 0)))).2.2.1 (.instanceMethod (mN y)) && wAt (wpT.getD y (0, (0, (0, 0)))).2.2.2 (.selects (mN y).cls (mN y) (mN y)))
set_option maxRecDepth 100000 in
theorem wc_0 : [0, 1, 2, 3, 4, 5, 6, 7, 8, 9].all (fun y => wCode y) = true := by decide +kernel
set_option maxRecDepth 100000 in
theorem wf_0 : [0, 1, 2, 3, 4, 5, 6, 7, 8, 9].all (fun y => wFace y) = true := by decide +kernel
set_option maxRecDepth 100000 in
theorem wc_1 : [10, 11, 12, 13, 14, 15, 16, 17, 18, 19].all (fun y => wCode y) = true := by decide +kernel
set_option maxRecDepth 100000 in
theorem wf_1 : [10, 11, 12, 13, 14, 15, 16, 17, 18, 19].all (fun y => wFace y) = true := by decide +kernel
set_option maxRecDepth 100000 in
theorem wc_2 : [20, 21, 22, 23, 24, 25, 26, 27, 28, 29].all (fun y => wCode y) = true := by decide +kernel
set_option maxRecDepth 100000 in
theorem wf_2 : [20, 21, 22, 23, 24, 25, 26, 27, 28, 29].all (fun y => wFace y) = true := by decide +kernel
set_option maxRecDepth 100000 in
theorem wc_3 : [30, 31, 32, 33, 34, 35, 36, 37, 38, 39].all (fun y => wCode y) = true := by decide +kernel
set_option maxRecDepth 100000 in
theorem wf_3 : [30, 31, 32, 33, 34, 35, 36, 37, 38, 39].all (fun y => wFace y) = true := by decide +kernel
set_option maxRecDepth 100000 in
theorem wc_4 : [40, 41, 42, 43, 44, 45, 46, 47, 48, 49].all (fun y => wCode y) = true := by decide +kernel
set_option maxRecDepth 100000 in
theorem wf_4 : [40, 41, 42, 43, 44, 45, 46, 47, 48, 49].all (fun y => wFace y) = true := by decide +kernel
set_option maxRecDepth 100000 in
theorem wc_5 : [50, 51, 52, 53, 54, 55, 56, 57, 58, 59].all (fun y => wCode y) = true := by decide +kernel
set_option maxRecDepth 100000 in
theorem wf_5 : [50, 51, 52, 53, 54, 55, 56, 57, 58, 59].all (fun y => wFace y) = true := by decide +kernel
set_option maxRecDepth 100000 in
theorem wc_6 : [60, 61, 62, 63, 64, 65, 66, 67, 68, 69].all (fun y => wCode y) = true := by decide +kernel
set_option maxRecDepth 100000 in
theorem wf_6 : [60, 61, 62, 63, 64, 65, 66, 67, 68, 69].all (fun y => wFace y) = true := by decide +kernel
set_option maxRecDepth 100000 in
theorem wc_7 : [70, 71, 72, 73, 74, 75, 76, 77, 78, 79].all (fun y => wCode y) = true := by decide +kernel
set_option maxRecDepth 100000 in
theorem wf_7 : [70, 71, 72, 73, 74, 75, 76, 77, 78, 79].all (fun y => wFace y) = true := by decide +kernel
set_option maxRecDepth 100000 in
theorem wc_8 : [80, 81, 82, 83, 84, 85, 86, 87, 88, 89].all (fun y => wCode y) = true := by decide +kernel
set_option maxRecDepth 100000 in
theorem wf_8 : [80, 81, 82, 83, 84, 85, 86, 87, 88, 89].all (fun y => wFace y) = true := by decide +kernel
set_option maxRecDepth 100000 in
theorem wc_9 : [90, 91, 92, 93, 94, 95, 96, 97, 98, 99].all (fun y => wCode y) = true := by decide +kernel
set_option maxRecDepth 100000 in
theorem wf_9 : [90, 91, 92, 93, 94, 95, 96, 97, 98, 99].all (fun y => wFace y) = true := by decide +kernel
set_option maxRecDepth 100000 in
theorem wc_10 : [100, 101, 102, 103, 104, 105, 106, 107, 108, 109].all (fun y => wCode y) = true := by decide +kernel
set_option maxRecDepth 100000 in
theorem wf_10 : [100, 101, 102, 103, 104, 105, 106, 107, 108, 109].all (fun y => wFace y) = true := by decide +kernel
set_option maxRecDepth 100000 in
theorem wc_11 : [110, 111, 112, 113, 114, 115, 116, 117, 118, 119].all (fun y => wCode y) = true := by decide +kernel
set_option maxRecDepth 100000 in
theorem wf_11 : [110, 111, 112, 113, 114, 115, 116, 117, 118, 119].all (fun y => wFace y) = true := by decide +kernel
set_option maxRecDepth 100000 in
theorem wc_12 : [120, 121, 122, 123, 124, 125, 126, 127, 128, 129].all (fun y => wCode y) = true := by decide +kernel
set_option maxRecDepth 100000 in
theorem wf_12 : [120, 121, 122, 123, 124, 125, 126, 127, 128, 129].all (fun y => wFace y) = true := by decide +kernel
set_option maxRecDepth 100000 in
theorem wc_13 : [130, 131, 132, 133, 134, 135, 136, 137, 138, 139].all (fun y => wCode y) = true := by decide +kernel
set_option maxRecDepth 100000 in
theorem wf_13 : [130, 131, 132, 133, 134, 135, 136, 137, 138, 139].all (fun y => wFace y) = true := by decide +kernel
set_option maxRecDepth 100000 in
theorem wc_14 : [140, 141, 142, 143, 144, 145, 146, 147, 148, 149].all (fun y => wCode y) = true := by decide +kernel
set_option maxRecDepth 100000 in
theorem wf_14 : [140, 141, 142, 143, 144, 145, 146, 147, 148, 149].all (fun y => wFace y) = true := by decide +kernel
set_option maxRecDepth 100000 in
theorem wc_15 : [150, 151, 152, 153, 154, 155, 156, 157, 158, 159].all (fun y => wCode y) = true := by decide +kernel
set_option maxRecDepth 100000 in
theorem wf_15 : [150, 151, 152, 153, 154, 155, 156, 157, 158, 159].all (fun y => wFace y) = true := by decide +kernel
set_option maxRecDepth 100000 in
theorem wc_16 : [160, 161, 162, 163, 164, 165, 166, 167, 168, 169].all (fun y => wCode y) = true := by decide +kernel
set_option maxRecDepth 100000 in
theorem wf_16 : [160, 161, 162, 163, 164, 165, 166, 167, 168, 169].all (fun y => wFace y) = true := by decide +kernel
set_option maxRecDepth 100000 in
theorem wc_17 : [170, 171, 172, 173, 174, 175, 176, 177, 178, 179].all (fun y => wCode y) = true := by decide +kernel
set_option maxRecDepth 100000 in
theorem wf_17 : [170, 171, 172, 173, 174, 175, 176, 177, 178, 179].all (fun y => wFace y) = true := by decide +kernel
set_option maxRecDepth 100000 in
theorem wc_18 : [180, 181, 182, 183, 184, 185, 186, 187, 188, 189].all (fun y => wCode y) = true := by decide +kernel
set_option maxRecDepth 100000 in
theorem wf_18 : [180, 181, 182, 183, 184, 185, 186, 187, 188, 189].all (fun y => wFace y) = true := by decide +kernel
set_option maxRecDepth 100000 in
theorem wc_19 : [190, 191, 192, 193, 194, 195, 196, 197, 198, 199].all (fun y => wCode y) = true := by decide +kernel
set_option maxRecDepth 100000 in
theorem wf_19 : [190, 191, 192, 193, 194, 195, 196, 197, 198, 199].all (fun y => wFace y) = true := by decide +kernel
set_option maxRecDepth 100000 in
theorem wc_20 : [200, 201, 202, 203, 204, 205, 206, 207, 208, 209].all (fun y => wCode y) = true := by decide +kernel
set_option maxRecDepth 100000 in
theorem wf_20 : [200, 201, 202, 203, 204, 205, 206, 207, 208, 209].all (fun y => wFace y) = true := by decide +kernel
set_option maxRecDepth 100000 in
theorem wc_21 : [210, 211, 212, 213, 214, 215, 216, 217, 218, 219].all (fun y => wCode y) = true := by decide +kernel
set_option maxRecDepth 100000 in
theorem wf_21 : [210, 211, 212, 213, 214, 215, 216, 217, 218, 219].all (fun y => wFace y) = true := by decide +kernel
