/-! The names of the classes that have objects; the words; the model's methods. Written by wip/tools/gen_model.py. -/
def gm_WS : List Cond := lw_tbl.filter goodWord
theorem gm_m {w : Cond} (i : Nat) (h : tables_1[i]? = some w) (hg : goodWord w = true) : w ∈ gm_WS := List.mem_filter.mpr ⟨List.mem_append_right _ (List.mem_of_getElem? h), hg⟩
theorem gm_ms {w : Cond} (i : Nat) (h : (k2_sels lw_privs)[i]? = some w) (hg : goodWord w = true) : w ∈ gm_WS := List.mem_filter.mpr ⟨List.mem_append_left _ (List.mem_of_getElem? h), hg⟩
theorem gm_ws_good : gm_WS.all goodWord = true := List.all_eq_true.mpr (fun _ h => (List.mem_filter.mp h).2)
theorem gm_good {x y : Cond} (hx : y ∈ gm_WS) : GoodIn (x :: gm_WS) (y :: gm_WS) := fun w h => by
  rcases List.mem_cons.mp h with e | e
  · rw [e]; exact ⟨List.mem_cons_of_mem _ hx, good_of_word (List.mem_filter.mp hx).2⟩
  · exact ⟨List.mem_cons_of_mem _ e, good_of_word (List.mem_filter.mp e).2⟩
def gm_R0 : String := "GrammarMachine"
def gm_T0 : u_T := fun k => match k with
  | 0 => ("GrammarMachine", "lineRow", "[C", true)
  | 1 => ("GrammarMachine", "textRow", "[C", true)
  | 2 => ("GrammarMachine", "reader", "LGrammarMachine$Reader;", true)
  | 3 => ("GrammarMachine", "grammar", "LGrammarMachine$Grammar;", true)
  | 4 => ("GrammarMachine", "chart", "LGrammarMachine$Chart;", true)
  | 5 => ("GrammarMachine", "lineLength", "I", false)
  | 6 => ("GrammarMachine", "textLength", "I", false)
  | _ => ("GrammarMachine", "latestRow", "I", false)
def gm_t0 : Nat → FieldType := fun k => match k with
  | 0 => .array (.char)
  | 1 => .array (.char)
  | 2 => .object "GrammarMachine$Reader"
  | 3 => .object "GrammarMachine$Grammar"
  | 4 => .object "GrammarMachine$Chart"
  | 5 => .int
  | 6 => .int
  | _ => .int
theorem gm_nm0 : ∀ a, a < 8 → ∀ b, b < 8 → a ≠ b → (gm_T0 a).2.1 ≠ (gm_T0 b).2.1 := by decide +kernel
theorem gm_ty0 : ∀ k, k < 8 → parseFieldDescriptor (gm_T0 k).2.2.1 = some (gm_t0 k) := by decide +kernel
def gm_R1 : String := "GrammarMachine$Reader"
def gm_T1 : u_T := fun k => match k with
  | 0 => ("GrammarMachine$Reader", "row", "[C", true)
  | 1 => ("GrammarMachine$Reader", "length", "I", false)
  | _ => ("GrammarMachine$Reader", "at", "I", false)
def gm_t1 : Nat → FieldType := fun k => match k with
  | 0 => .array (.char)
  | 1 => .int
  | _ => .int
theorem gm_nm1 : ∀ a, a < 3 → ∀ b, b < 3 → a ≠ b → (gm_T1 a).2.1 ≠ (gm_T1 b).2.1 := by decide +kernel
theorem gm_ty1 : ∀ k, k < 3 → parseFieldDescriptor (gm_T1 k).2.2.1 = some (gm_t1 k) := by decide +kernel
def gm_R2 : String := "GrammarMachine$Grammar"
def gm_T2 : u_T := fun k => match k with
  | 0 => ("GrammarMachine$Grammar", "patterns", "[LGrammarMachine$Pattern;", true)
  | 1 => ("GrammarMachine$Grammar", "lines", "[C", true)
  | 2 => ("GrammarMachine$Grammar", "arranged", "[I", true)
  | _ => ("GrammarMachine$Grammar", "arrangedCount", "I", false)
def gm_t2 : Nat → FieldType := fun k => match k with
  | 0 => .array (.object "GrammarMachine$Pattern")
  | 1 => .array (.char)
  | 2 => .array (.int)
  | _ => .int
theorem gm_nm2 : ∀ a, a < 4 → ∀ b, b < 4 → a ≠ b → (gm_T2 a).2.1 ≠ (gm_T2 b).2.1 := by decide +kernel
theorem gm_ty2 : ∀ k, k < 4 → parseFieldDescriptor (gm_T2 k).2.2.1 = some (gm_t2 k) := by decide +kernel
def gm_R3 : String := "GrammarMachine$Chart"
def gm_T3 : u_T := fun k => match k with
  | 0 => ("GrammarMachine$Chart", "characters", "[C", true)
  | 1 => ("GrammarMachine$Chart", "length", "I", false)
  | 2 => ("GrammarMachine$Chart", "row", "I", false)
  | 3 => ("GrammarMachine$Chart", "ends", "[I", true)
  | 4 => ("GrammarMachine$Chart", "farthestFailures", "[I", true)
  | 5 => ("GrammarMachine$Chart", "reached", "[J", true)
  | 6 => ("GrammarMachine$Chart", "kept", "[I", true)
  | 7 => ("GrammarMachine$Chart", "captureBegins", "[I", true)
  | _ => ("GrammarMachine$Chart", "captureEnds", "[I", true)
def gm_t3 : Nat → FieldType := fun k => match k with
  | 0 => .array (.char)
  | 1 => .int
  | 2 => .int
  | 3 => .array (.int)
  | 4 => .array (.int)
  | 5 => .array (.long)
  | 6 => .array (.int)
  | 7 => .array (.int)
  | _ => .array (.int)
theorem gm_nm3 : ∀ a, a < 9 → ∀ b, b < 9 → a ≠ b → (gm_T3 a).2.1 ≠ (gm_T3 b).2.1 := by decide +kernel
theorem gm_ty3 : ∀ k, k < 9 → parseFieldDescriptor (gm_T3 k).2.2.1 = some (gm_t3 k) := by decide +kernel
def gm_R4 : String := "GrammarMachineModel"
def gm_T4 : u_T := fun k => match k with
  | 0 => ("GrammarMachineModel", "thrown", "I", false)
  | 1 => ("GrammarMachineModel", "line", "[I", true)
  | 2 => ("GrammarMachineModel", "typed", "I", false)
  | 3 => ("GrammarMachineModel", "text", "[I", true)
  | 4 => ("GrammarMachineModel", "length", "I", false)
  | 5 => ("GrammarMachineModel", "defined", "[Z", true)
  | 6 => ("GrammarMachineModel", "lines", "[I", true)
  | 7 => ("GrammarMachineModel", "lineLength", "[I", true)
  | 8 => ("GrammarMachineModel", "many", "[I", true)
  | 9 => ("GrammarMachineModel", "kind", "[I", true)
  | 10 => ("GrammarMachineModel", "within", "[I", true)
  | 11 => ("GrammarMachineModel", "most", "[I", true)
  | 12 => ("GrammarMachineModel", "next", "[I", true)
  | 13 => ("GrammarMachineModel", "last", "[I", true)
  | 14 => ("GrammarMachineModel", "empty", "[Z", true)
  | 15 => ("GrammarMachineModel", "starts", "[I", true)
  | 16 => ("GrammarMachineModel", "uses", "[I", true)
  | 17 => ("GrammarMachineModel", "at", "I", false)
  | 18 => ("GrammarMachineModel", "bad", "Z", false)
  | 19 => ("GrammarMachineModel", "depth", "I", false)
  | 20 => ("GrammarMachineModel", "choices", "[I", true)
  | 21 => ("GrammarMachineModel", "sequences", "[I", true)
  | 22 => ("GrammarMachineModel", "braces", "[I", true)
  | 23 => ("GrammarMachineModel", "prefixFrom", "[I", true)
  | 24 => ("GrammarMachineModel", "prefixTo", "[I", true)
  | 25 => ("GrammarMachineModel", "ends", "[I", true)
  | 26 => ("GrammarMachineModel", "looked", "[Z", true)
  | 27 => ("GrammarMachineModel", "stack", "[I", true)
  | 28 => ("GrammarMachineModel", "top", "I", false)
  | 29 => ("GrammarMachineModel", "pairs", "[Z", true)
  | 30 => ("GrammarMachineModel", "kept", "I", false)
  | 31 => ("GrammarMachineModel", "begins", "[I", true)
  | 32 => ("GrammarMachineModel", "closes", "[I", true)
  | 33 => ("GrammarMachineModel", "far", "I", false)
  | _ => ("GrammarMachineModel", "tries", "I", false)
def gm_t4 : Nat → FieldType := fun k => match k with
  | 0 => .int
  | 1 => .array (.int)
  | 2 => .int
  | 3 => .array (.int)
  | 4 => .int
  | 5 => .array (.boolean)
  | 6 => .array (.int)
  | 7 => .array (.int)
  | 8 => .array (.int)
  | 9 => .array (.int)
  | 10 => .array (.int)
  | 11 => .array (.int)
  | 12 => .array (.int)
  | 13 => .array (.int)
  | 14 => .array (.boolean)
  | 15 => .array (.int)
  | 16 => .array (.int)
  | 17 => .int
  | 18 => .boolean
  | 19 => .int
  | 20 => .array (.int)
  | 21 => .array (.int)
  | 22 => .array (.int)
  | 23 => .array (.int)
  | 24 => .array (.int)
  | 25 => .array (.int)
  | 26 => .array (.boolean)
  | 27 => .array (.int)
  | 28 => .int
  | 29 => .array (.boolean)
  | 30 => .int
  | 31 => .array (.int)
  | 32 => .array (.int)
  | 33 => .int
  | _ => .int
theorem gm_nm4 : ∀ a, a < 35 → ∀ b, b < 35 → a ≠ b → (gm_T4 a).2.1 ≠ (gm_T4 b).2.1 := by decide +kernel
theorem gm_ty4 : ∀ k, k < 35 → parseFieldDescriptor (gm_T4 k).2.2.1 = some (gm_t4 k) := by decide +kernel
def gm_R5 : String := "GrammarMachine$Single"
def gm_T5 : u_T := fun k => match k with
  | 0 => ("GrammarMachine$Single", "low", "C", true)
  | _ => ("GrammarMachine$Single", "high", "C", true)
def gm_t5 : Nat → FieldType := fun k => match k with
  | 0 => .char
  | _ => .char
theorem gm_nm5 : ∀ a, a < 2 → ∀ b, b < 2 → a ≠ b → (gm_T5 a).2.1 ≠ (gm_T5 b).2.1 := by decide +kernel
theorem gm_ty5 : ∀ k, k < 2 → parseFieldDescriptor (gm_T5 k).2.2.1 = some (gm_t5 k) := by decide +kernel
def gm_R6 : String := "GrammarMachine$Name"
def gm_T6 : u_T := fun k => match k with
  | _ => ("GrammarMachine$Name", "rule", "I", true)
def gm_t6 : Nat → FieldType := fun k => match k with
  | _ => .int
theorem gm_nm6 : ∀ a, a < 1 → ∀ b, b < 1 → a ≠ b → (gm_T6 a).2.1 ≠ (gm_T6 b).2.1 := by decide +kernel
theorem gm_ty6 : ∀ k, k < 1 → parseFieldDescriptor (gm_T6 k).2.2.1 = some (gm_t6 k) := by decide +kernel
def gm_R7 : String := "GrammarMachine$Capture"
def gm_T7 : u_T := fun k => match k with
  | _ => ("GrammarMachine$Capture", "inside", "LGrammarMachine$Pattern;", true)
def gm_t7 : Nat → FieldType := fun k => match k with
  | _ => .object "GrammarMachine$Pattern"
theorem gm_nm7 : ∀ a, a < 1 → ∀ b, b < 1 → a ≠ b → (gm_T7 a).2.1 ≠ (gm_T7 b).2.1 := by decide +kernel
theorem gm_ty7 : ∀ k, k < 1 → parseFieldDescriptor (gm_T7 k).2.2.1 = some (gm_t7 k) := by decide +kernel
def gm_R8 : String := "GrammarMachine$Repeat"
def gm_T8 : u_T := fun k => match k with
  | 0 => ("GrammarMachine$Repeat", "part", "LGrammarMachine$Pattern;", true)
  | 1 => ("GrammarMachine$Repeat", "least", "I", true)
  | _ => ("GrammarMachine$Repeat", "most", "I", true)
def gm_t8 : Nat → FieldType := fun k => match k with
  | 0 => .object "GrammarMachine$Pattern"
  | 1 => .int
  | _ => .int
theorem gm_nm8 : ∀ a, a < 3 → ∀ b, b < 3 → a ≠ b → (gm_T8 a).2.1 ≠ (gm_T8 b).2.1 := by decide +kernel
theorem gm_ty8 : ∀ k, k < 3 → parseFieldDescriptor (gm_T8 k).2.2.1 = some (gm_t8 k) := by decide +kernel
def gm_R9 : String := "GrammarMachine$Look"
def gm_T9 : u_T := fun k => match k with
  | 0 => ("GrammarMachine$Look", "piece", "LGrammarMachine$Pattern;", true)
  | _ => ("GrammarMachine$Look", "wanted", "Z", true)
def gm_t9 : Nat → FieldType := fun k => match k with
  | 0 => .object "GrammarMachine$Pattern"
  | _ => .boolean
theorem gm_nm9 : ∀ a, a < 2 → ∀ b, b < 2 → a ≠ b → (gm_T9 a).2.1 ≠ (gm_T9 b).2.1 := by decide +kernel
theorem gm_ty9 : ∀ k, k < 2 → parseFieldDescriptor (gm_T9 k).2.2.1 = some (gm_t9 k) := by decide +kernel
def gm_R10 : String := "GrammarMachine$Sequence"
def gm_T10 : u_T := fun k => match k with
  | _ => ("GrammarMachine$Sequence", "items", "Ljava/util/List;", true)
def gm_t10 : Nat → FieldType := fun k => match k with
  | _ => .object "java/util/List"
theorem gm_nm10 : ∀ a, a < 1 → ∀ b, b < 1 → a ≠ b → (gm_T10 a).2.1 ≠ (gm_T10 b).2.1 := by decide +kernel
theorem gm_ty10 : ∀ k, k < 1 → parseFieldDescriptor (gm_T10 k).2.2.1 = some (gm_t10 k) := by decide +kernel
def gm_R11 : String := "GrammarMachine$Choice"
def gm_T11 : u_T := fun k => match k with
  | _ => ("GrammarMachine$Choice", "sequences", "Ljava/util/List;", true)
def gm_t11 : Nat → FieldType := fun k => match k with
  | _ => .object "java/util/List"
theorem gm_nm11 : ∀ a, a < 1 → ∀ b, b < 1 → a ≠ b → (gm_T11 a).2.1 ≠ (gm_T11 b).2.1 := by decide +kernel
theorem gm_ty11 : ∀ k, k < 1 → parseFieldDescriptor (gm_T11 k).2.2.1 = some (gm_t11 k) := by decide +kernel
def gm_R12 : String := "java/util/ArrayList"
def gm_T12 : u_T := fun k => match k with
  | 0 => ("java/util/ArrayList", "elementData", "[Ljava/lang/Object;", false)
  | 1 => ("java/util/ArrayList", "size", "I", false)
  | _ => ("java/util/AbstractList", "modCount", "I", false)
def gm_t12 : Nat → FieldType := fun k => match k with
  | 0 => .array (.object "java/lang/Object")
  | 1 => .int
  | _ => .int
theorem gm_nm12 : ∀ a, a < 3 → ∀ b, b < 3 → a ≠ b → (gm_T12 a).2.1 ≠ (gm_T12 b).2.1 := by decide +kernel
theorem gm_ty12 : ∀ k, k < 3 → parseFieldDescriptor (gm_T12 k).2.2.1 = some (gm_t12 k) := by decide +kernel
abbrev gm_cl : List vw_C := [(gm_R0, gm_T0, 8), (gm_R1, gm_T1, 3), (gm_R2, gm_T2, 4), (gm_R3, gm_T3, 9), (gm_R4, gm_T4, 35), (gm_R5, gm_T5, 2), (gm_R6, gm_T6, 1), (gm_R7, gm_T7, 1), (gm_R8, gm_T8, 3), (gm_R9, gm_T9, 2), (gm_R10, gm_T10, 1), (gm_R11, gm_T11, 1), (gm_R12, gm_T12, 3)]
/-- the arrays by their tags: int, char, boolean, long, patterns, objects -/
abbrev gm_tyl : List FieldType := [.int, .char, .boolean, .long, .object "GrammarMachine$Pattern", .object "java/lang/Object"]
theorem gm_lay {C : String} {T : u_T} {N : Nat} (ix : List Nat) (h : ∀ k, k < N → tables_1[ix.getD k 0]? = some (u_lay C T k) ∧ goodWord (u_lay C T k) = true) : ∀ w ∈ u_ws C T N, w ∈ gm_WS := fun w hw => by
  obtain ⟨k, hk, rfl⟩ := List.mem_map.mp hw
  exact gm_m _ (h k (List.mem_range.mp hk)).1 (h k (List.mem_range.mp hk)).2
theorem gm_in4 : ∀ w ∈ u_ws gm_R4 gm_T4 35, w ∈ gm_WS := gm_lay [896, 898, 900, 902, 904, 906, 908, 910, 912, 914, 916, 918, 920, 922, 924, 926, 928, 930, 932, 934, 936, 938, 940, 942, 944, 946, 948, 950, 952, 954, 956, 958, 960, 962, 964] (by decide +kernel)
theorem gm_f {x : Cond} (w : Cond) (h : w ∈ gm_WS) : w ∈ x :: gm_WS := List.mem_cons_of_mem _ h
theorem gm_in4c {x : Cond} : ∀ w ∈ u_ws gm_R4 gm_T4 35, w ∈ x :: gm_WS := fun w h => List.mem_cons_of_mem _ (gm_in4 w h)
def gm_y0 : MethodName := ⟨"GrammarMachineModel", "<init>", "()V"⟩
abbrev gm_c0 : ByteArray := prog_14_method_1_code
theorem gm_k0 : Cond.code gm_y0 gm_c0 1 none ∈ gm_WS := gm_m 859 (by decide +kernel) (by decide +kernel)
def gm_y1 : MethodName := ⟨"GrammarMachineModel", "thrown", "()I"⟩
abbrev gm_c1 : ByteArray := prog_14_method_2_code
theorem gm_k1 : Cond.code gm_y1 gm_c1 1 (some .int) ∈ gm_WS := gm_m 971 (by decide +kernel) (by decide +kernel)
def gm_y2 : MethodName := ⟨"GrammarMachineModel", "isRule", "(I)Z"⟩
abbrev gm_c2 : ByteArray := prog_14_method_3_code
theorem gm_k2 : Cond.code gm_y2 gm_c2 1 (some .boolean) ∈ gm_WS := gm_m 1044 (by decide +kernel) (by decide +kernel)
def gm_y3 : MethodName := ⟨"GrammarMachineModel", "charactersOf", "(I)I"⟩
abbrev gm_c3 : ByteArray := prog_14_method_4_code
theorem gm_k3 : Cond.code gm_y3 gm_c3 3 (some .int) ∈ gm_WS := gm_m 978 (by decide +kernel) (by decide +kernel)
def gm_y4 : MethodName := ⟨"GrammarMachineModel", "type", "(I)Z"⟩
abbrev gm_c4 : ByteArray := prog_14_method_5_code
theorem gm_k4 : Cond.code gm_y4 gm_c4 4 (some .boolean) ∈ gm_WS := gm_m 975 (by decide +kernel) (by decide +kernel)
def gm_y5 : MethodName := ⟨"GrammarMachineModel", "text", "(I)Z"⟩
abbrev gm_c5 : ByteArray := prog_14_method_6_code
theorem gm_k5 : Cond.code gm_y5 gm_c5 4 (some .boolean) ∈ gm_WS := gm_m 982 (by decide +kernel) (by decide +kernel)
def gm_y6 : MethodName := ⟨"GrammarMachineModel", "clear", "()I"⟩
abbrev gm_c6 : ByteArray := prog_14_method_7_code
theorem gm_k6 : Cond.code gm_y6 gm_c6 2 (some .int) ∈ gm_WS := gm_m 986 (by decide +kernel) (by decide +kernel)
def gm_y7 : MethodName := ⟨"GrammarMachineModel", "look", "(I)I"⟩
abbrev gm_c7 : ByteArray := prog_14_method_8_code
theorem gm_k7 : Cond.code gm_y7 gm_c7 2 (some .int) ∈ gm_WS := gm_m 998 (by decide +kernel) (by decide +kernel)
def gm_y8 : MethodName := ⟨"GrammarMachineModel", "isSmall", "(I)Z"⟩
abbrev gm_c8 : ByteArray := prog_14_method_9_code
theorem gm_k8 : Cond.code gm_y8 gm_c8 1 (some .boolean) ∈ gm_WS := gm_m 1025 (by decide +kernel) (by decide +kernel)
def gm_y9 : MethodName := ⟨"GrammarMachineModel", "make", "(II)I"⟩
abbrev gm_c9 : ByteArray := prog_14_method_10_code
theorem gm_k9 : Cond.code gm_y9 gm_c9 4 (some .int) ∈ gm_WS := gm_m 1006 (by decide +kernel) (by decide +kernel)
def gm_y10 : MethodName := ⟨"GrammarMachineModel", "append", "(II)V"⟩
abbrev gm_c10 : ByteArray := prog_14_method_11_code
theorem gm_k10 : Cond.code gm_y10 gm_c10 3 none ∈ gm_WS := gm_m 1014 (by decide +kernel) (by decide +kernel)
def gm_y11 : MethodName := ⟨"GrammarMachineModel", "newSequence", "()V"⟩
abbrev gm_c11 : ByteArray := prog_14_method_12_code
theorem gm_k11 : Cond.code gm_y11 gm_c11 2 none ∈ gm_WS := gm_m 1010 (by decide +kernel) (by decide +kernel)
def gm_y12 : MethodName := ⟨"GrammarMachineModel", "goesIn", "(I)V"⟩
abbrev gm_c12 : ByteArray := prog_14_method_13_code
theorem gm_k12 : Cond.code gm_y12 gm_c12 2 none ∈ gm_WS := gm_m 1002 (by decide +kernel) (by decide +kernel)
def gm_y13 : MethodName := ⟨"GrammarMachineModel", "character", "(II)I"⟩
abbrev gm_c13 : ByteArray := prog_14_method_14_code
theorem gm_k13 : Cond.code gm_y13 gm_c13 4 (some .int) ∈ gm_WS := gm_m 1029 (by decide +kernel) (by decide +kernel)
def gm_y14 : MethodName := ⟨"GrammarMachineModel", "atom", "()I"⟩
abbrev gm_c14 : ByteArray := prog_14_method_15_code
theorem gm_k14 : Cond.code gm_y14 gm_c14 3 (some .int) ∈ gm_WS := gm_m 1022 (by decide +kernel) (by decide +kernel)
def gm_y15 : MethodName := ⟨"GrammarMachineModel", "take", "(I)V"⟩
abbrev gm_c15 : ByteArray := prog_14_method_16_code
theorem gm_k15 : Cond.code gm_y15 gm_c15 5 none ∈ gm_WS := gm_m 1033 (by decide +kernel) (by decide +kernel)
def gm_y16 : MethodName := ⟨"GrammarMachineModel", "closeAll", "()V"⟩
abbrev gm_c16 : ByteArray := prog_14_method_17_code
theorem gm_k16 : Cond.code gm_y16 gm_c16 2 none ∈ gm_WS := gm_m 1037 (by decide +kernel) (by decide +kernel)
def gm_y17 : MethodName := ⟨"GrammarMachineModel", "readItem", "()V"⟩
abbrev gm_c17 : ByteArray := prog_14_method_18_code
theorem gm_k17 : Cond.code gm_y17 gm_c17 4 none ∈ gm_WS := gm_m 1018 (by decide +kernel) (by decide +kernel)
def gm_y18 : MethodName := ⟨"GrammarMachineModel", "read", "()Z"⟩
abbrev gm_c18 : ByteArray := prog_14_method_19_code
theorem gm_k18 : Cond.code gm_y18 gm_c18 1 (some .boolean) ∈ gm_WS := gm_m 994 (by decide +kernel) (by decide +kernel)
def gm_y19 : MethodName := ⟨"GrammarMachineModel", "define", "()I"⟩
abbrev gm_c19 : ByteArray := prog_14_method_20_code
theorem gm_k19 : Cond.code gm_y19 gm_c19 5 (some .int) ∈ gm_WS := gm_m 990 (by decide +kernel) (by decide +kernel)
def gm_y20 : MethodName := ⟨"GrammarMachineModel", "drop", "(I)Z"⟩
abbrev gm_c20 : ByteArray := prog_14_method_21_code
theorem gm_k20 : Cond.code gm_y20 gm_c20 2 (some .boolean) ∈ gm_WS := gm_m 1041 (by decide +kernel) (by decide +kernel)
def gm_y21 : MethodName := ⟨"GrammarMachineModel", "shown", "(II)C"⟩
abbrev gm_c21 : ByteArray := prog_14_method_22_code
theorem gm_k21 : Cond.code gm_y21 gm_c21 3 (some .char) ∈ gm_WS := gm_m 1048 (by decide +kernel) (by decide +kernel)
def gm_y22 : MethodName := ⟨"GrammarMachineModel", "isNode", "(I)Z"⟩
abbrev gm_c22 : ByteArray := prog_14_method_23_code
theorem gm_k22 : Cond.code gm_y22 gm_c22 2 (some .boolean) ∈ gm_WS := gm_m 1064 (by decide +kernel) (by decide +kernel)
def gm_y23 : MethodName := ⟨"GrammarMachineModel", "emptyNow", "(I)Z"⟩
abbrev gm_c23 : ByteArray := prog_14_method_24_code
theorem gm_k23 : Cond.code gm_y23 gm_c23 5 (some .boolean) ∈ gm_WS := gm_m 1068 (by decide +kernel) (by decide +kernel)
def gm_y24 : MethodName := ⟨"GrammarMachineModel", "startsNow", "(I)I"⟩
abbrev gm_c24 : ByteArray := prog_14_method_25_code
theorem gm_k24 : Cond.code gm_y24 gm_c24 6 (some .int) ∈ gm_WS := gm_m 1072 (by decide +kernel) (by decide +kernel)
def gm_y25 : MethodName := ⟨"GrammarMachineModel", "work", "()V"⟩
abbrev gm_c25 : ByteArray := prog_14_method_26_code
theorem gm_k25 : Cond.code gm_y25 gm_c25 5 none ∈ gm_WS := gm_m 1060 (by decide +kernel) (by decide +kernel)
def gm_y26 : MethodName := ⟨"GrammarMachineModel", "reached", "(II)I"⟩
abbrev gm_c26 : ByteArray := prog_14_method_27_code
theorem gm_k26 : Cond.code gm_y26 gm_c26 6 (some .int) ∈ gm_WS := gm_m 1076 (by decide +kernel) (by decide +kernel)
def gm_y27 : MethodName := ⟨"GrammarMachineModel", "checked", "(I)I"⟩
abbrev gm_c27 : ByteArray := prog_14_method_28_code
theorem gm_k27 : Cond.code gm_y27 gm_c27 8 (some .int) ∈ gm_WS := gm_m 1056 (by decide +kernel) (by decide +kernel)
def gm_y28 : MethodName := ⟨"GrammarMachineModel", "check", "(I)I"⟩
abbrev gm_c28 : ByteArray := prog_14_method_29_code
theorem gm_k28 : Cond.code gm_y28 gm_c28 2 (some .int) ∈ gm_WS := gm_m 1052 (by decide +kernel) (by decide +kernel)
def gm_y29 : MethodName := ⟨"GrammarMachineModel", "roundFrom", "(II)I"⟩
abbrev gm_c29 : ByteArray := prog_14_method_30_code
theorem gm_k29 : Cond.code gm_y29 gm_c29 5 (some .int) ∈ gm_WS := gm_m 1100 (by decide +kernel) (by decide +kernel)
def gm_y30 : MethodName := ⟨"GrammarMachineModel", "sequenceFrom", "(II)I"⟩
abbrev gm_c30 : ByteArray := prog_14_method_31_code
theorem gm_k30 : Cond.code gm_y30 gm_c30 5 (some .int) ∈ gm_WS := gm_m 1092 (by decide +kernel) (by decide +kernel)
def gm_y31 : MethodName := ⟨"GrammarMachineModel", "choiceFrom", "(II)I"⟩
abbrev gm_c31 : ByteArray := prog_14_method_32_code
theorem gm_k31 : Cond.code gm_y31 gm_c31 5 (some .int) ∈ gm_WS := gm_m 1096 (by decide +kernel) (by decide +kernel)
def gm_y32 : MethodName := ⟨"GrammarMachineModel", "endNow", "(II)I"⟩
abbrev gm_c32 : ByteArray := prog_14_method_33_code
theorem gm_k32 : Cond.code gm_y32 gm_c32 5 (some .int) ∈ gm_WS := gm_m 1088 (by decide +kernel) (by decide +kernel)
def gm_y33 : MethodName := ⟨"GrammarMachineModel", "findEnds", "()V"⟩
abbrev gm_c33 : ByteArray := prog_14_method_34_code
theorem gm_k33 : Cond.code gm_y33 gm_c33 4 none ∈ gm_WS := gm_m 1084 (by decide +kernel) (by decide +kernel)
def gm_y34 : MethodName := ⟨"GrammarMachineModel", "lookAt", "(II)V"⟩
abbrev gm_c34 : ByteArray := prog_14_method_35_code
theorem gm_k34 : Cond.code gm_y34 gm_c34 3 none ∈ gm_WS := gm_m 1116 (by decide +kernel) (by decide +kernel)
def gm_y35 : MethodName := ⟨"GrammarMachineModel", "rule", "(II)V"⟩
abbrev gm_c35 : ByteArray := prog_14_method_36_code
theorem gm_k35 : Cond.code gm_y35 gm_c35 3 none ∈ gm_WS := gm_m 1112 (by decide +kernel) (by decide +kernel)
def gm_y36 : MethodName := ⟨"GrammarMachineModel", "lookWithin", "(II)V"⟩
abbrev gm_c36 : ByteArray := prog_14_method_37_code
theorem gm_k36 : Cond.code gm_y36 gm_c36 6 none ∈ gm_WS := gm_m 1120 (by decide +kernel) (by decide +kernel)
def gm_y37 : MethodName := ⟨"GrammarMachineModel", "lookAll", "(II)V"⟩
abbrev gm_c37 : ByteArray := prog_14_method_38_code
theorem gm_k37 : Cond.code gm_y37 gm_c37 4 none ∈ gm_WS := gm_m 1108 (by decide +kernel) (by decide +kernel)
def gm_y38 : MethodName := ⟨"GrammarMachineModel", "keep", "(II)V"⟩
abbrev gm_c38 : ByteArray := prog_14_method_39_code
theorem gm_k38 : Cond.code gm_y38 gm_c38 3 none ∈ gm_WS := gm_m 1132 (by decide +kernel) (by decide +kernel)
def gm_y39 : MethodName := ⟨"GrammarMachineModel", "turn", "(I)V"⟩
abbrev gm_c39 : ByteArray := prog_14_method_40_code
theorem gm_k39 : Cond.code gm_y39 gm_c39 5 none ∈ gm_WS := gm_m 1136 (by decide +kernel) (by decide +kernel)
def gm_y40 : MethodName := ⟨"GrammarMachineModel", "push", "(II)V"⟩
abbrev gm_c40 : ByteArray := prog_14_method_41_code
theorem gm_k40 : Cond.code gm_y40 gm_c40 3 none ∈ gm_WS := gm_m 1124 (by decide +kernel) (by decide +kernel)
def gm_y41 : MethodName := ⟨"GrammarMachineModel", "captureWithin", "(II)V"⟩
abbrev gm_c41 : ByteArray := prog_14_method_42_code
theorem gm_k41 : Cond.code gm_y41 gm_c41 7 none ∈ gm_WS := gm_m 1128 (by decide +kernel) (by decide +kernel)
def gm_y42 : MethodName := ⟨"GrammarMachineModel", "matched", "(II)I"⟩
abbrev gm_c42 : ByteArray := prog_14_method_43_code
theorem gm_k42 : Cond.code gm_y42 gm_c42 5 (some .int) ∈ gm_WS := gm_m 1104 (by decide +kernel) (by decide +kernel)
def gm_y43 : MethodName := ⟨"GrammarMachineModel", "match", "(II)I"⟩
abbrev gm_c43 : ByteArray := prog_14_method_44_code
theorem gm_k43 : Cond.code gm_y43 gm_c43 3 (some .int) ∈ gm_WS := gm_m 1080 (by decide +kernel) (by decide +kernel)
def gm_y44 : MethodName := ⟨"GrammarMachineModel", "find", "(I)I"⟩
abbrev gm_c44 : ByteArray := prog_14_method_45_code
theorem gm_k44 : Cond.code gm_y44 gm_c44 3 (some .int) ∈ gm_WS := gm_m 1140 (by decide +kernel) (by decide +kernel)
def gm_y45 : MethodName := ⟨"GrammarMachineModel", "captures", "()I"⟩
abbrev gm_c45 : ByteArray := prog_14_method_46_code
theorem gm_k45 : Cond.code gm_y45 gm_c45 1 (some .int) ∈ gm_WS := gm_m 1144 (by decide +kernel) (by decide +kernel)
def gm_y46 : MethodName := ⟨"GrammarMachineModel", "capture", "(II)I"⟩
abbrev gm_c46 : ByteArray := prog_14_method_47_code
theorem gm_k46 : Cond.code gm_y46 gm_c46 3 (some .int) ∈ gm_WS := gm_m 1148 (by decide +kernel) (by decide +kernel)
def gm_y47 : MethodName := ⟨"GrammarMachineModel", "farthest", "()I"⟩
abbrev gm_c47 : ByteArray := prog_14_method_48_code
theorem gm_k47 : Cond.code gm_y47 gm_c47 1 (some .int) ∈ gm_WS := gm_m 1152 (by decide +kernel) (by decide +kernel)
def gm_y48 : MethodName := ⟨"GrammarMachineModel", "tried", "()I"⟩
abbrev gm_c48 : ByteArray := prog_14_method_49_code
theorem gm_k48 : Cond.code gm_y48 gm_c48 1 (some .int) ∈ gm_WS := gm_m 1156 (by decide +kernel) (by decide +kernel)
def gm_zl (G : (Nat → Nat) → (Nat → Prop) → State → Heap → Prop) : List gx_M := [(gm_cl, gm_tyl, G, Cond.code gm_y0 gm_c0 1 none :: gm_WS, gm_c0, gm_y0, 1, none), (gm_cl, gm_tyl, G, Cond.code gm_y1 gm_c1 1 (some .int) :: gm_WS, gm_c1, gm_y1, 1, (some .int)), (gm_cl, gm_tyl, G, Cond.code gm_y2 gm_c2 1 (some .boolean) :: gm_WS, gm_c2, gm_y2, 1, (some .boolean)), (gm_cl, gm_tyl, G, Cond.code gm_y3 gm_c3 3 (some .int) :: gm_WS, gm_c3, gm_y3, 3, (some .int)), (gm_cl, gm_tyl, G, Cond.code gm_y4 gm_c4 4 (some .boolean) :: gm_WS, gm_c4, gm_y4, 4, (some .boolean)), (gm_cl, gm_tyl, G, Cond.code gm_y5 gm_c5 4 (some .boolean) :: gm_WS, gm_c5, gm_y5, 4, (some .boolean)), (gm_cl, gm_tyl, G, Cond.code gm_y6 gm_c6 2 (some .int) :: gm_WS, gm_c6, gm_y6, 2, (some .int)), (gm_cl, gm_tyl, G, Cond.code gm_y7 gm_c7 2 (some .int) :: gm_WS, gm_c7, gm_y7, 2, (some .int)), (gm_cl, gm_tyl, G, Cond.code gm_y8 gm_c8 1 (some .boolean) :: gm_WS, gm_c8, gm_y8, 1, (some .boolean)), (gm_cl, gm_tyl, G, Cond.code gm_y9 gm_c9 4 (some .int) :: gm_WS, gm_c9, gm_y9, 4, (some .int)), (gm_cl, gm_tyl, G, Cond.code gm_y10 gm_c10 3 none :: gm_WS, gm_c10, gm_y10, 3, none), (gm_cl, gm_tyl, G, Cond.code gm_y11 gm_c11 2 none :: gm_WS, gm_c11, gm_y11, 2, none), (gm_cl, gm_tyl, G, Cond.code gm_y12 gm_c12 2 none :: gm_WS, gm_c12, gm_y12, 2, none), (gm_cl, gm_tyl, G, Cond.code gm_y13 gm_c13 4 (some .int) :: gm_WS, gm_c13, gm_y13, 4, (some .int)), (gm_cl, gm_tyl, G, Cond.code gm_y14 gm_c14 3 (some .int) :: gm_WS, gm_c14, gm_y14, 3, (some .int)), (gm_cl, gm_tyl, G, Cond.code gm_y15 gm_c15 5 none :: gm_WS, gm_c15, gm_y15, 5, none), (gm_cl, gm_tyl, G, Cond.code gm_y16 gm_c16 2 none :: gm_WS, gm_c16, gm_y16, 2, none), (gm_cl, gm_tyl, G, Cond.code gm_y17 gm_c17 4 none :: gm_WS, gm_c17, gm_y17, 4, none), (gm_cl, gm_tyl, G, Cond.code gm_y18 gm_c18 1 (some .boolean) :: gm_WS, gm_c18, gm_y18, 1, (some .boolean)), (gm_cl, gm_tyl, G, Cond.code gm_y19 gm_c19 5 (some .int) :: gm_WS, gm_c19, gm_y19, 5, (some .int)), (gm_cl, gm_tyl, G, Cond.code gm_y20 gm_c20 2 (some .boolean) :: gm_WS, gm_c20, gm_y20, 2, (some .boolean)), (gm_cl, gm_tyl, G, Cond.code gm_y21 gm_c21 3 (some .char) :: gm_WS, gm_c21, gm_y21, 3, (some .char)), (gm_cl, gm_tyl, G, Cond.code gm_y22 gm_c22 2 (some .boolean) :: gm_WS, gm_c22, gm_y22, 2, (some .boolean)), (gm_cl, gm_tyl, G, Cond.code gm_y23 gm_c23 5 (some .boolean) :: gm_WS, gm_c23, gm_y23, 5, (some .boolean)), (gm_cl, gm_tyl, G, Cond.code gm_y24 gm_c24 6 (some .int) :: gm_WS, gm_c24, gm_y24, 6, (some .int)), (gm_cl, gm_tyl, G, Cond.code gm_y25 gm_c25 5 none :: gm_WS, gm_c25, gm_y25, 5, none), (gm_cl, gm_tyl, G, Cond.code gm_y26 gm_c26 6 (some .int) :: gm_WS, gm_c26, gm_y26, 6, (some .int)), (gm_cl, gm_tyl, G, Cond.code gm_y27 gm_c27 8 (some .int) :: gm_WS, gm_c27, gm_y27, 8, (some .int)), (gm_cl, gm_tyl, G, Cond.code gm_y28 gm_c28 2 (some .int) :: gm_WS, gm_c28, gm_y28, 2, (some .int)), (gm_cl, gm_tyl, G, Cond.code gm_y29 gm_c29 5 (some .int) :: gm_WS, gm_c29, gm_y29, 5, (some .int)), (gm_cl, gm_tyl, G, Cond.code gm_y30 gm_c30 5 (some .int) :: gm_WS, gm_c30, gm_y30, 5, (some .int)), (gm_cl, gm_tyl, G, Cond.code gm_y31 gm_c31 5 (some .int) :: gm_WS, gm_c31, gm_y31, 5, (some .int)), (gm_cl, gm_tyl, G, Cond.code gm_y32 gm_c32 5 (some .int) :: gm_WS, gm_c32, gm_y32, 5, (some .int)), (gm_cl, gm_tyl, G, Cond.code gm_y33 gm_c33 4 none :: gm_WS, gm_c33, gm_y33, 4, none), (gm_cl, gm_tyl, G, Cond.code gm_y34 gm_c34 3 none :: gm_WS, gm_c34, gm_y34, 3, none), (gm_cl, gm_tyl, G, Cond.code gm_y35 gm_c35 3 none :: gm_WS, gm_c35, gm_y35, 3, none), (gm_cl, gm_tyl, G, Cond.code gm_y36 gm_c36 6 none :: gm_WS, gm_c36, gm_y36, 6, none), (gm_cl, gm_tyl, G, Cond.code gm_y37 gm_c37 4 none :: gm_WS, gm_c37, gm_y37, 4, none), (gm_cl, gm_tyl, G, Cond.code gm_y38 gm_c38 3 none :: gm_WS, gm_c38, gm_y38, 3, none), (gm_cl, gm_tyl, G, Cond.code gm_y39 gm_c39 5 none :: gm_WS, gm_c39, gm_y39, 5, none), (gm_cl, gm_tyl, G, Cond.code gm_y40 gm_c40 3 none :: gm_WS, gm_c40, gm_y40, 3, none), (gm_cl, gm_tyl, G, Cond.code gm_y41 gm_c41 7 none :: gm_WS, gm_c41, gm_y41, 7, none), (gm_cl, gm_tyl, G, Cond.code gm_y42 gm_c42 5 (some .int) :: gm_WS, gm_c42, gm_y42, 5, (some .int)), (gm_cl, gm_tyl, G, Cond.code gm_y43 gm_c43 3 (some .int) :: gm_WS, gm_c43, gm_y43, 3, (some .int)), (gm_cl, gm_tyl, G, Cond.code gm_y44 gm_c44 3 (some .int) :: gm_WS, gm_c44, gm_y44, 3, (some .int)), (gm_cl, gm_tyl, G, Cond.code gm_y45 gm_c45 1 (some .int) :: gm_WS, gm_c45, gm_y45, 1, (some .int)), (gm_cl, gm_tyl, G, Cond.code gm_y46 gm_c46 3 (some .int) :: gm_WS, gm_c46, gm_y46, 3, (some .int)), (gm_cl, gm_tyl, G, Cond.code gm_y47 gm_c47 1 (some .int) :: gm_WS, gm_c47, gm_y47, 1, (some .int)), (gm_cl, gm_tyl, G, Cond.code gm_y48 gm_c48 1 (some .int) :: gm_WS, gm_c48, gm_y48, 1, (some .int))]
def gm_z (G : (Nat → Nat) → (Nat → Prop) → State → Heap → Prop) : Nat → gx_M := fun m => (gm_zl G).getD m (gm_cl, gm_tyl, G, Cond.code gm_y1 gm_c1 1 (some .int) :: gm_WS, gm_c1, gm_y1, 1, some .int)
theorem gm_w860 : Cond.methodLink "GrammarMachineModel" 1 ⟨"java/lang/Object", "<init>", "()V"⟩ ∈ gm_WS := gm_m 860 (by decide +kernel) (by decide +kernel)
theorem gm_w36 : Cond.instanceMethod ⟨"java/lang/Object", "<init>", "()V"⟩ ∈ gm_WS := gm_m 36 (by decide +kernel) (by decide +kernel)
theorem gm_w37 : Cond.code Lib.objectInit ⟨#[0xb1]⟩ 1 none ∈ gm_WS := gm_m 37 (by decide +kernel) (by decide +kernel)
theorem gm_w79 : Cond.arrayClass .int ∈ gm_WS := gm_m 79 (by decide +kernel) (by decide +kernel)
theorem gm_w862 : Cond.fieldLink "GrammarMachineModel" 7 "GrammarMachineModel" "line" "[I" ∈ gm_WS := gm_m 862 (by decide +kernel) (by decide +kernel)
theorem gm_w864 : Cond.fieldLink "GrammarMachineModel" 13 "GrammarMachineModel" "text" "[I" ∈ gm_WS := gm_m 864 (by decide +kernel) (by decide +kernel)
theorem gm_w967 : Cond.arrayClass .boolean ∈ gm_WS := gm_m 967 (by decide +kernel) (by decide +kernel)
theorem gm_w866 : Cond.fieldLink "GrammarMachineModel" 16 "GrammarMachineModel" "defined" "[Z" ∈ gm_WS := gm_m 866 (by decide +kernel) (by decide +kernel)
theorem gm_w867 : Cond.fieldLink "GrammarMachineModel" 20 "GrammarMachineModel" "lines" "[I" ∈ gm_WS := gm_m 867 (by decide +kernel) (by decide +kernel)
theorem gm_w868 : Cond.fieldLink "GrammarMachineModel" 23 "GrammarMachineModel" "lineLength" "[I" ∈ gm_WS := gm_m 868 (by decide +kernel) (by decide +kernel)
theorem gm_w869 : Cond.fieldLink "GrammarMachineModel" 26 "GrammarMachineModel" "many" "[I" ∈ gm_WS := gm_m 869 (by decide +kernel) (by decide +kernel)
theorem gm_w870 : Cond.fieldLink "GrammarMachineModel" 29 "GrammarMachineModel" "kind" "[I" ∈ gm_WS := gm_m 870 (by decide +kernel) (by decide +kernel)
theorem gm_w871 : Cond.fieldLink "GrammarMachineModel" 32 "GrammarMachineModel" "within" "[I" ∈ gm_WS := gm_m 871 (by decide +kernel) (by decide +kernel)
theorem gm_w872 : Cond.fieldLink "GrammarMachineModel" 35 "GrammarMachineModel" "most" "[I" ∈ gm_WS := gm_m 872 (by decide +kernel) (by decide +kernel)
theorem gm_w873 : Cond.fieldLink "GrammarMachineModel" 38 "GrammarMachineModel" "next" "[I" ∈ gm_WS := gm_m 873 (by decide +kernel) (by decide +kernel)
theorem gm_w874 : Cond.fieldLink "GrammarMachineModel" 41 "GrammarMachineModel" "last" "[I" ∈ gm_WS := gm_m 874 (by decide +kernel) (by decide +kernel)
theorem gm_w875 : Cond.fieldLink "GrammarMachineModel" 44 "GrammarMachineModel" "empty" "[Z" ∈ gm_WS := gm_m 875 (by decide +kernel) (by decide +kernel)
theorem gm_w876 : Cond.fieldLink "GrammarMachineModel" 47 "GrammarMachineModel" "starts" "[I" ∈ gm_WS := gm_m 876 (by decide +kernel) (by decide +kernel)
theorem gm_w877 : Cond.fieldLink "GrammarMachineModel" 50 "GrammarMachineModel" "uses" "[I" ∈ gm_WS := gm_m 877 (by decide +kernel) (by decide +kernel)
theorem gm_w881 : Cond.fieldLink "GrammarMachineModel" 53 "GrammarMachineModel" "choices" "[I" ∈ gm_WS := gm_m 881 (by decide +kernel) (by decide +kernel)
theorem gm_w882 : Cond.fieldLink "GrammarMachineModel" 56 "GrammarMachineModel" "sequences" "[I" ∈ gm_WS := gm_m 882 (by decide +kernel) (by decide +kernel)
theorem gm_w883 : Cond.fieldLink "GrammarMachineModel" 59 "GrammarMachineModel" "braces" "[I" ∈ gm_WS := gm_m 883 (by decide +kernel) (by decide +kernel)
theorem gm_w884 : Cond.fieldLink "GrammarMachineModel" 62 "GrammarMachineModel" "prefixFrom" "[I" ∈ gm_WS := gm_m 884 (by decide +kernel) (by decide +kernel)
theorem gm_w885 : Cond.fieldLink "GrammarMachineModel" 65 "GrammarMachineModel" "prefixTo" "[I" ∈ gm_WS := gm_m 885 (by decide +kernel) (by decide +kernel)
theorem gm_w886 : Cond.fieldLink "GrammarMachineModel" 68 "GrammarMachineModel" "ends" "[I" ∈ gm_WS := gm_m 886 (by decide +kernel) (by decide +kernel)
theorem gm_w887 : Cond.fieldLink "GrammarMachineModel" 71 "GrammarMachineModel" "looked" "[Z" ∈ gm_WS := gm_m 887 (by decide +kernel) (by decide +kernel)
theorem gm_w888 : Cond.fieldLink "GrammarMachineModel" 74 "GrammarMachineModel" "stack" "[I" ∈ gm_WS := gm_m 888 (by decide +kernel) (by decide +kernel)
theorem gm_w890 : Cond.fieldLink "GrammarMachineModel" 77 "GrammarMachineModel" "pairs" "[Z" ∈ gm_WS := gm_m 890 (by decide +kernel) (by decide +kernel)
theorem gm_w892 : Cond.fieldLink "GrammarMachineModel" 80 "GrammarMachineModel" "begins" "[I" ∈ gm_WS := gm_m 892 (by decide +kernel) (by decide +kernel)
theorem gm_w893 : Cond.fieldLink "GrammarMachineModel" 83 "GrammarMachineModel" "closes" "[I" ∈ gm_WS := gm_m 893 (by decide +kernel) (by decide +kernel)
theorem gm_w894 : Cond.fieldLink "GrammarMachineModel" 86 "GrammarMachineModel" "far" "I" ∈ gm_WS := gm_m 894 (by decide +kernel) (by decide +kernel)
theorem gm_w861 : Cond.fieldLink "GrammarMachineModel" 90 "GrammarMachineModel" "thrown" "I" ∈ gm_WS := gm_m 861 (by decide +kernel) (by decide +kernel)
theorem gm_w5 : Cond.initialized "GrammarMachineModel" ∈ gm_WS := gm_m 5 (by decide +kernel) (by decide +kernel)
theorem gm_w976 : Cond.methodLink "GrammarMachineModel" 93 ⟨"GrammarMachineModel", "charactersOf", "(I)I"⟩ ∈ gm_WS := gm_m 976 (by decide +kernel) (by decide +kernel)
theorem gm_w977 : Cond.static ⟨"GrammarMachineModel", "charactersOf", "(I)I"⟩ ∈ gm_WS := gm_m 977 (by decide +kernel) (by decide +kernel)
theorem gm_w863 : Cond.fieldLink "GrammarMachineModel" 97 "GrammarMachineModel" "typed" "I" ∈ gm_WS := gm_m 863 (by decide +kernel) (by decide +kernel)
theorem gm_w865 : Cond.fieldLink "GrammarMachineModel" 100 "GrammarMachineModel" "length" "I" ∈ gm_WS := gm_m 865 (by decide +kernel) (by decide +kernel)
theorem gm_w1003 : Cond.methodLink "GrammarMachineModel" 103 ⟨"GrammarMachineModel", "make", "(II)I"⟩ ∈ gm_WS := gm_m 1003 (by decide +kernel) (by decide +kernel)
theorem gm_w1005 : Cond.instanceMethod ⟨"GrammarMachineModel", "make", "(II)I"⟩ ∈ gm_WS := gm_m 1005 (by decide +kernel) (by decide +kernel)
theorem gm_s26 : Cond.selects "GrammarMachineModel" ⟨"GrammarMachineModel", "make", "(II)I"⟩ ⟨"GrammarMachineModel", "make", "(II)I"⟩ ∈ gm_WS := gm_ms 26 (by decide +kernel) (by decide +kernel)
theorem gm_w880 : Cond.fieldLink "GrammarMachineModel" 107 "GrammarMachineModel" "depth" "I" ∈ gm_WS := gm_m 880 (by decide +kernel) (by decide +kernel)
theorem gm_w1011 : Cond.methodLink "GrammarMachineModel" 110 ⟨"GrammarMachineModel", "append", "(II)V"⟩ ∈ gm_WS := gm_m 1011 (by decide +kernel) (by decide +kernel)
theorem gm_w1013 : Cond.instanceMethod ⟨"GrammarMachineModel", "append", "(II)V"⟩ ∈ gm_WS := gm_m 1013 (by decide +kernel) (by decide +kernel)
theorem gm_s28 : Cond.selects "GrammarMachineModel" ⟨"GrammarMachineModel", "append", "(II)V"⟩ ⟨"GrammarMachineModel", "append", "(II)V"⟩ ∈ gm_WS := gm_ms 28 (by decide +kernel) (by decide +kernel)
theorem gm_w1007 : Cond.methodLink "GrammarMachineModel" 114 ⟨"GrammarMachineModel", "newSequence", "()V"⟩ ∈ gm_WS := gm_m 1007 (by decide +kernel) (by decide +kernel)
theorem gm_w1009 : Cond.instanceMethod ⟨"GrammarMachineModel", "newSequence", "()V"⟩ ∈ gm_WS := gm_m 1009 (by decide +kernel) (by decide +kernel)
theorem gm_s27 : Cond.selects "GrammarMachineModel" ⟨"GrammarMachineModel", "newSequence", "()V"⟩ ⟨"GrammarMachineModel", "newSequence", "()V"⟩ ∈ gm_WS := gm_ms 27 (by decide +kernel) (by decide +kernel)
theorem gm_w878 : Cond.fieldLink "GrammarMachineModel" 117 "GrammarMachineModel" "at" "I" ∈ gm_WS := gm_m 878 (by decide +kernel) (by decide +kernel)
theorem gm_w995 : Cond.methodLink "GrammarMachineModel" 120 ⟨"GrammarMachineModel", "look", "(I)I"⟩ ∈ gm_WS := gm_m 995 (by decide +kernel) (by decide +kernel)
theorem gm_w997 : Cond.instanceMethod ⟨"GrammarMachineModel", "look", "(I)I"⟩ ∈ gm_WS := gm_m 997 (by decide +kernel) (by decide +kernel)
theorem gm_s24 : Cond.selects "GrammarMachineModel" ⟨"GrammarMachineModel", "look", "(I)I"⟩ ⟨"GrammarMachineModel", "look", "(I)I"⟩ ∈ gm_WS := gm_ms 24 (by decide +kernel) (by decide +kernel)
theorem gm_w1023 : Cond.methodLink "GrammarMachineModel" 123 ⟨"GrammarMachineModel", "isSmall", "(I)Z"⟩ ∈ gm_WS := gm_m 1023 (by decide +kernel) (by decide +kernel)
theorem gm_w1024 : Cond.static ⟨"GrammarMachineModel", "isSmall", "(I)Z"⟩ ∈ gm_WS := gm_m 1024 (by decide +kernel) (by decide +kernel)
theorem gm_w1026 : Cond.methodLink "GrammarMachineModel" 127 ⟨"GrammarMachineModel", "character", "(II)I"⟩ ∈ gm_WS := gm_m 1026 (by decide +kernel) (by decide +kernel)
theorem gm_w1028 : Cond.instanceMethod ⟨"GrammarMachineModel", "character", "(II)I"⟩ ∈ gm_WS := gm_m 1028 (by decide +kernel) (by decide +kernel)
theorem gm_s31 : Cond.selects "GrammarMachineModel" ⟨"GrammarMachineModel", "character", "(II)I"⟩ ⟨"GrammarMachineModel", "character", "(II)I"⟩ ∈ gm_WS := gm_ms 31 (by decide +kernel) (by decide +kernel)
theorem gm_w1030 : Cond.methodLink "GrammarMachineModel" 130 ⟨"GrammarMachineModel", "take", "(I)V"⟩ ∈ gm_WS := gm_m 1030 (by decide +kernel) (by decide +kernel)
theorem gm_w1032 : Cond.instanceMethod ⟨"GrammarMachineModel", "take", "(I)V"⟩ ∈ gm_WS := gm_m 1032 (by decide +kernel) (by decide +kernel)
theorem gm_s32 : Cond.selects "GrammarMachineModel" ⟨"GrammarMachineModel", "take", "(I)V"⟩ ⟨"GrammarMachineModel", "take", "(I)V"⟩ ∈ gm_WS := gm_ms 32 (by decide +kernel) (by decide +kernel)
theorem gm_w879 : Cond.fieldLink "GrammarMachineModel" 134 "GrammarMachineModel" "bad" "Z" ∈ gm_WS := gm_m 879 (by decide +kernel) (by decide +kernel)
theorem gm_w999 : Cond.methodLink "GrammarMachineModel" 138 ⟨"GrammarMachineModel", "goesIn", "(I)V"⟩ ∈ gm_WS := gm_m 999 (by decide +kernel) (by decide +kernel)
theorem gm_w1001 : Cond.instanceMethod ⟨"GrammarMachineModel", "goesIn", "(I)V"⟩ ∈ gm_WS := gm_m 1001 (by decide +kernel) (by decide +kernel)
theorem gm_s25 : Cond.selects "GrammarMachineModel" ⟨"GrammarMachineModel", "goesIn", "(I)V"⟩ ⟨"GrammarMachineModel", "goesIn", "(I)V"⟩ ∈ gm_WS := gm_ms 25 (by decide +kernel) (by decide +kernel)
theorem gm_w1019 : Cond.methodLink "GrammarMachineModel" 141 ⟨"GrammarMachineModel", "atom", "()I"⟩ ∈ gm_WS := gm_m 1019 (by decide +kernel) (by decide +kernel)
theorem gm_w1021 : Cond.instanceMethod ⟨"GrammarMachineModel", "atom", "()I"⟩ ∈ gm_WS := gm_m 1021 (by decide +kernel) (by decide +kernel)
theorem gm_s30 : Cond.selects "GrammarMachineModel" ⟨"GrammarMachineModel", "atom", "()I"⟩ ⟨"GrammarMachineModel", "atom", "()I"⟩ ∈ gm_WS := gm_ms 30 (by decide +kernel) (by decide +kernel)
theorem gm_w1034 : Cond.methodLink "GrammarMachineModel" 145 ⟨"GrammarMachineModel", "closeAll", "()V"⟩ ∈ gm_WS := gm_m 1034 (by decide +kernel) (by decide +kernel)
theorem gm_w1036 : Cond.instanceMethod ⟨"GrammarMachineModel", "closeAll", "()V"⟩ ∈ gm_WS := gm_m 1036 (by decide +kernel) (by decide +kernel)
theorem gm_s33 : Cond.selects "GrammarMachineModel" ⟨"GrammarMachineModel", "closeAll", "()V"⟩ ⟨"GrammarMachineModel", "closeAll", "()V"⟩ ∈ gm_WS := gm_ms 33 (by decide +kernel) (by decide +kernel)
theorem gm_w1015 : Cond.methodLink "GrammarMachineModel" 148 ⟨"GrammarMachineModel", "readItem", "()V"⟩ ∈ gm_WS := gm_m 1015 (by decide +kernel) (by decide +kernel)
theorem gm_w1017 : Cond.instanceMethod ⟨"GrammarMachineModel", "readItem", "()V"⟩ ∈ gm_WS := gm_m 1017 (by decide +kernel) (by decide +kernel)
theorem gm_s29 : Cond.selects "GrammarMachineModel" ⟨"GrammarMachineModel", "readItem", "()V"⟩ ⟨"GrammarMachineModel", "readItem", "()V"⟩ ∈ gm_WS := gm_ms 29 (by decide +kernel) (by decide +kernel)
theorem gm_w991 : Cond.methodLink "GrammarMachineModel" 151 ⟨"GrammarMachineModel", "read", "()Z"⟩ ∈ gm_WS := gm_m 991 (by decide +kernel) (by decide +kernel)
theorem gm_w993 : Cond.instanceMethod ⟨"GrammarMachineModel", "read", "()Z"⟩ ∈ gm_WS := gm_m 993 (by decide +kernel) (by decide +kernel)
theorem gm_s23 : Cond.selects "GrammarMachineModel" ⟨"GrammarMachineModel", "read", "()Z"⟩ ⟨"GrammarMachineModel", "read", "()Z"⟩ ∈ gm_WS := gm_ms 23 (by decide +kernel) (by decide +kernel)
theorem gm_w1042 : Cond.methodLink "GrammarMachineModel" 155 ⟨"GrammarMachineModel", "isRule", "(I)Z"⟩ ∈ gm_WS := gm_m 1042 (by decide +kernel) (by decide +kernel)
theorem gm_w1043 : Cond.static ⟨"GrammarMachineModel", "isRule", "(I)Z"⟩ ∈ gm_WS := gm_m 1043 (by decide +kernel) (by decide +kernel)
theorem gm_w1061 : Cond.methodLink "GrammarMachineModel" 158 ⟨"GrammarMachineModel", "isNode", "(I)Z"⟩ ∈ gm_WS := gm_m 1061 (by decide +kernel) (by decide +kernel)
theorem gm_w1063 : Cond.instanceMethod ⟨"GrammarMachineModel", "isNode", "(I)Z"⟩ ∈ gm_WS := gm_m 1063 (by decide +kernel) (by decide +kernel)
theorem gm_s36 : Cond.selects "GrammarMachineModel" ⟨"GrammarMachineModel", "isNode", "(I)Z"⟩ ⟨"GrammarMachineModel", "isNode", "(I)Z"⟩ ∈ gm_WS := gm_ms 36 (by decide +kernel) (by decide +kernel)
theorem gm_w1065 : Cond.methodLink "GrammarMachineModel" 161 ⟨"GrammarMachineModel", "emptyNow", "(I)Z"⟩ ∈ gm_WS := gm_m 1065 (by decide +kernel) (by decide +kernel)
theorem gm_w1067 : Cond.instanceMethod ⟨"GrammarMachineModel", "emptyNow", "(I)Z"⟩ ∈ gm_WS := gm_m 1067 (by decide +kernel) (by decide +kernel)
theorem gm_s37 : Cond.selects "GrammarMachineModel" ⟨"GrammarMachineModel", "emptyNow", "(I)Z"⟩ ⟨"GrammarMachineModel", "emptyNow", "(I)Z"⟩ ∈ gm_WS := gm_ms 37 (by decide +kernel) (by decide +kernel)
theorem gm_w1069 : Cond.methodLink "GrammarMachineModel" 164 ⟨"GrammarMachineModel", "startsNow", "(I)I"⟩ ∈ gm_WS := gm_m 1069 (by decide +kernel) (by decide +kernel)
theorem gm_w1071 : Cond.instanceMethod ⟨"GrammarMachineModel", "startsNow", "(I)I"⟩ ∈ gm_WS := gm_m 1071 (by decide +kernel) (by decide +kernel)
theorem gm_s38 : Cond.selects "GrammarMachineModel" ⟨"GrammarMachineModel", "startsNow", "(I)I"⟩ ⟨"GrammarMachineModel", "startsNow", "(I)I"⟩ ∈ gm_WS := gm_ms 38 (by decide +kernel) (by decide +kernel)
theorem gm_w1057 : Cond.methodLink "GrammarMachineModel" 167 ⟨"GrammarMachineModel", "work", "()V"⟩ ∈ gm_WS := gm_m 1057 (by decide +kernel) (by decide +kernel)
theorem gm_w1059 : Cond.instanceMethod ⟨"GrammarMachineModel", "work", "()V"⟩ ∈ gm_WS := gm_m 1059 (by decide +kernel) (by decide +kernel)
theorem gm_s35 : Cond.selects "GrammarMachineModel" ⟨"GrammarMachineModel", "work", "()V"⟩ ⟨"GrammarMachineModel", "work", "()V"⟩ ∈ gm_WS := gm_ms 35 (by decide +kernel) (by decide +kernel)
theorem gm_w1073 : Cond.methodLink "GrammarMachineModel" 170 ⟨"GrammarMachineModel", "reached", "(II)I"⟩ ∈ gm_WS := gm_m 1073 (by decide +kernel) (by decide +kernel)
theorem gm_w1075 : Cond.instanceMethod ⟨"GrammarMachineModel", "reached", "(II)I"⟩ ∈ gm_WS := gm_m 1075 (by decide +kernel) (by decide +kernel)
theorem gm_s39 : Cond.selects "GrammarMachineModel" ⟨"GrammarMachineModel", "reached", "(II)I"⟩ ⟨"GrammarMachineModel", "reached", "(II)I"⟩ ∈ gm_WS := gm_ms 39 (by decide +kernel) (by decide +kernel)
theorem gm_w1053 : Cond.methodLink "GrammarMachineModel" 173 ⟨"GrammarMachineModel", "checked", "(I)I"⟩ ∈ gm_WS := gm_m 1053 (by decide +kernel) (by decide +kernel)
theorem gm_w1055 : Cond.instanceMethod ⟨"GrammarMachineModel", "checked", "(I)I"⟩ ∈ gm_WS := gm_m 1055 (by decide +kernel) (by decide +kernel)
theorem gm_s34 : Cond.selects "GrammarMachineModel" ⟨"GrammarMachineModel", "checked", "(I)I"⟩ ⟨"GrammarMachineModel", "checked", "(I)I"⟩ ∈ gm_WS := gm_ms 34 (by decide +kernel) (by decide +kernel)
theorem gm_w1089 : Cond.methodLink "GrammarMachineModel" 176 ⟨"GrammarMachineModel", "sequenceFrom", "(II)I"⟩ ∈ gm_WS := gm_m 1089 (by decide +kernel) (by decide +kernel)
theorem gm_w1091 : Cond.instanceMethod ⟨"GrammarMachineModel", "sequenceFrom", "(II)I"⟩ ∈ gm_WS := gm_m 1091 (by decide +kernel) (by decide +kernel)
theorem gm_s42 : Cond.selects "GrammarMachineModel" ⟨"GrammarMachineModel", "sequenceFrom", "(II)I"⟩ ⟨"GrammarMachineModel", "sequenceFrom", "(II)I"⟩ ∈ gm_WS := gm_ms 42 (by decide +kernel) (by decide +kernel)
theorem gm_w1093 : Cond.methodLink "GrammarMachineModel" 179 ⟨"GrammarMachineModel", "choiceFrom", "(II)I"⟩ ∈ gm_WS := gm_m 1093 (by decide +kernel) (by decide +kernel)
theorem gm_w1095 : Cond.instanceMethod ⟨"GrammarMachineModel", "choiceFrom", "(II)I"⟩ ∈ gm_WS := gm_m 1095 (by decide +kernel) (by decide +kernel)
theorem gm_s43 : Cond.selects "GrammarMachineModel" ⟨"GrammarMachineModel", "choiceFrom", "(II)I"⟩ ⟨"GrammarMachineModel", "choiceFrom", "(II)I"⟩ ∈ gm_WS := gm_ms 43 (by decide +kernel) (by decide +kernel)
theorem gm_w1097 : Cond.methodLink "GrammarMachineModel" 182 ⟨"GrammarMachineModel", "roundFrom", "(II)I"⟩ ∈ gm_WS := gm_m 1097 (by decide +kernel) (by decide +kernel)
theorem gm_w1099 : Cond.instanceMethod ⟨"GrammarMachineModel", "roundFrom", "(II)I"⟩ ∈ gm_WS := gm_m 1099 (by decide +kernel) (by decide +kernel)
theorem gm_s44 : Cond.selects "GrammarMachineModel" ⟨"GrammarMachineModel", "roundFrom", "(II)I"⟩ ⟨"GrammarMachineModel", "roundFrom", "(II)I"⟩ ∈ gm_WS := gm_ms 44 (by decide +kernel) (by decide +kernel)
theorem gm_w1085 : Cond.methodLink "GrammarMachineModel" 185 ⟨"GrammarMachineModel", "endNow", "(II)I"⟩ ∈ gm_WS := gm_m 1085 (by decide +kernel) (by decide +kernel)
theorem gm_w1087 : Cond.instanceMethod ⟨"GrammarMachineModel", "endNow", "(II)I"⟩ ∈ gm_WS := gm_m 1087 (by decide +kernel) (by decide +kernel)
theorem gm_s41 : Cond.selects "GrammarMachineModel" ⟨"GrammarMachineModel", "endNow", "(II)I"⟩ ⟨"GrammarMachineModel", "endNow", "(II)I"⟩ ∈ gm_WS := gm_ms 41 (by decide +kernel) (by decide +kernel)
theorem gm_w889 : Cond.fieldLink "GrammarMachineModel" 188 "GrammarMachineModel" "top" "I" ∈ gm_WS := gm_m 889 (by decide +kernel) (by decide +kernel)
theorem gm_w895 : Cond.fieldLink "GrammarMachineModel" 191 "GrammarMachineModel" "tries" "I" ∈ gm_WS := gm_m 895 (by decide +kernel) (by decide +kernel)
theorem gm_w1113 : Cond.methodLink "GrammarMachineModel" 194 ⟨"GrammarMachineModel", "lookAt", "(II)V"⟩ ∈ gm_WS := gm_m 1113 (by decide +kernel) (by decide +kernel)
theorem gm_w1115 : Cond.instanceMethod ⟨"GrammarMachineModel", "lookAt", "(II)V"⟩ ∈ gm_WS := gm_m 1115 (by decide +kernel) (by decide +kernel)
theorem gm_s48 : Cond.selects "GrammarMachineModel" ⟨"GrammarMachineModel", "lookAt", "(II)V"⟩ ⟨"GrammarMachineModel", "lookAt", "(II)V"⟩ ∈ gm_WS := gm_ms 48 (by decide +kernel) (by decide +kernel)
theorem gm_w1109 : Cond.methodLink "GrammarMachineModel" 197 ⟨"GrammarMachineModel", "rule", "(II)V"⟩ ∈ gm_WS := gm_m 1109 (by decide +kernel) (by decide +kernel)
theorem gm_w1111 : Cond.instanceMethod ⟨"GrammarMachineModel", "rule", "(II)V"⟩ ∈ gm_WS := gm_m 1111 (by decide +kernel) (by decide +kernel)
theorem gm_s47 : Cond.selects "GrammarMachineModel" ⟨"GrammarMachineModel", "rule", "(II)V"⟩ ⟨"GrammarMachineModel", "rule", "(II)V"⟩ ∈ gm_WS := gm_ms 47 (by decide +kernel) (by decide +kernel)
theorem gm_w1117 : Cond.methodLink "GrammarMachineModel" 200 ⟨"GrammarMachineModel", "lookWithin", "(II)V"⟩ ∈ gm_WS := gm_m 1117 (by decide +kernel) (by decide +kernel)
theorem gm_w1119 : Cond.instanceMethod ⟨"GrammarMachineModel", "lookWithin", "(II)V"⟩ ∈ gm_WS := gm_m 1119 (by decide +kernel) (by decide +kernel)
theorem gm_s49 : Cond.selects "GrammarMachineModel" ⟨"GrammarMachineModel", "lookWithin", "(II)V"⟩ ⟨"GrammarMachineModel", "lookWithin", "(II)V"⟩ ∈ gm_WS := gm_ms 49 (by decide +kernel) (by decide +kernel)
theorem gm_w891 : Cond.fieldLink "GrammarMachineModel" 203 "GrammarMachineModel" "kept" "I" ∈ gm_WS := gm_m 891 (by decide +kernel) (by decide +kernel)
theorem gm_w1129 : Cond.methodLink "GrammarMachineModel" 206 ⟨"GrammarMachineModel", "keep", "(II)V"⟩ ∈ gm_WS := gm_m 1129 (by decide +kernel) (by decide +kernel)
theorem gm_w1131 : Cond.instanceMethod ⟨"GrammarMachineModel", "keep", "(II)V"⟩ ∈ gm_WS := gm_m 1131 (by decide +kernel) (by decide +kernel)
theorem gm_s52 : Cond.selects "GrammarMachineModel" ⟨"GrammarMachineModel", "keep", "(II)V"⟩ ⟨"GrammarMachineModel", "keep", "(II)V"⟩ ∈ gm_WS := gm_ms 52 (by decide +kernel) (by decide +kernel)
theorem gm_w1121 : Cond.methodLink "GrammarMachineModel" 209 ⟨"GrammarMachineModel", "push", "(II)V"⟩ ∈ gm_WS := gm_m 1121 (by decide +kernel) (by decide +kernel)
theorem gm_w1123 : Cond.instanceMethod ⟨"GrammarMachineModel", "push", "(II)V"⟩ ∈ gm_WS := gm_m 1123 (by decide +kernel) (by decide +kernel)
theorem gm_s50 : Cond.selects "GrammarMachineModel" ⟨"GrammarMachineModel", "push", "(II)V"⟩ ⟨"GrammarMachineModel", "push", "(II)V"⟩ ∈ gm_WS := gm_ms 50 (by decide +kernel) (by decide +kernel)
theorem gm_w1133 : Cond.methodLink "GrammarMachineModel" 212 ⟨"GrammarMachineModel", "turn", "(I)V"⟩ ∈ gm_WS := gm_m 1133 (by decide +kernel) (by decide +kernel)
theorem gm_w1135 : Cond.instanceMethod ⟨"GrammarMachineModel", "turn", "(I)V"⟩ ∈ gm_WS := gm_m 1135 (by decide +kernel) (by decide +kernel)
theorem gm_s53 : Cond.selects "GrammarMachineModel" ⟨"GrammarMachineModel", "turn", "(I)V"⟩ ⟨"GrammarMachineModel", "turn", "(I)V"⟩ ∈ gm_WS := gm_ms 53 (by decide +kernel) (by decide +kernel)
theorem gm_w1105 : Cond.methodLink "GrammarMachineModel" 215 ⟨"GrammarMachineModel", "lookAll", "(II)V"⟩ ∈ gm_WS := gm_m 1105 (by decide +kernel) (by decide +kernel)
theorem gm_w1107 : Cond.instanceMethod ⟨"GrammarMachineModel", "lookAll", "(II)V"⟩ ∈ gm_WS := gm_m 1107 (by decide +kernel) (by decide +kernel)
theorem gm_s46 : Cond.selects "GrammarMachineModel" ⟨"GrammarMachineModel", "lookAll", "(II)V"⟩ ⟨"GrammarMachineModel", "lookAll", "(II)V"⟩ ∈ gm_WS := gm_ms 46 (by decide +kernel) (by decide +kernel)
theorem gm_w1125 : Cond.methodLink "GrammarMachineModel" 218 ⟨"GrammarMachineModel", "captureWithin", "(II)V"⟩ ∈ gm_WS := gm_m 1125 (by decide +kernel) (by decide +kernel)
theorem gm_w1127 : Cond.instanceMethod ⟨"GrammarMachineModel", "captureWithin", "(II)V"⟩ ∈ gm_WS := gm_m 1127 (by decide +kernel) (by decide +kernel)
theorem gm_s51 : Cond.selects "GrammarMachineModel" ⟨"GrammarMachineModel", "captureWithin", "(II)V"⟩ ⟨"GrammarMachineModel", "captureWithin", "(II)V"⟩ ∈ gm_WS := gm_ms 51 (by decide +kernel) (by decide +kernel)
theorem gm_w1081 : Cond.methodLink "GrammarMachineModel" 221 ⟨"GrammarMachineModel", "findEnds", "()V"⟩ ∈ gm_WS := gm_m 1081 (by decide +kernel) (by decide +kernel)
theorem gm_w1083 : Cond.instanceMethod ⟨"GrammarMachineModel", "findEnds", "()V"⟩ ∈ gm_WS := gm_m 1083 (by decide +kernel) (by decide +kernel)
theorem gm_s40 : Cond.selects "GrammarMachineModel" ⟨"GrammarMachineModel", "findEnds", "()V"⟩ ⟨"GrammarMachineModel", "findEnds", "()V"⟩ ∈ gm_WS := gm_ms 40 (by decide +kernel) (by decide +kernel)
theorem gm_w1101 : Cond.methodLink "GrammarMachineModel" 224 ⟨"GrammarMachineModel", "matched", "(II)I"⟩ ∈ gm_WS := gm_m 1101 (by decide +kernel) (by decide +kernel)
theorem gm_w1103 : Cond.instanceMethod ⟨"GrammarMachineModel", "matched", "(II)I"⟩ ∈ gm_WS := gm_m 1103 (by decide +kernel) (by decide +kernel)
theorem gm_s45 : Cond.selects "GrammarMachineModel" ⟨"GrammarMachineModel", "matched", "(II)I"⟩ ⟨"GrammarMachineModel", "matched", "(II)I"⟩ ∈ gm_WS := gm_ms 45 (by decide +kernel) (by decide +kernel)
