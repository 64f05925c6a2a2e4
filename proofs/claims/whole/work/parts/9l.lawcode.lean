/-! The law and its helpers: words, decode rows, rows. Written by wip/tools/lawgen.py. -/
def gl_hd : Cond := Cond.initialized "GrammarMachineLaw"
theorem gl_w0 : Cond.initialized "GrammarMachineLaw" ∈ gm_WS := gm_m 0 (by decide +kernel) (by decide +kernel)
theorem gl_w1 : Cond.initialized "GrammarMachine" ∈ gm_WS := gm_m 1 (by decide +kernel) (by decide +kernel)
theorem gl_w5 : Cond.initialized "GrammarMachineModel" ∈ gm_WS := gm_m 5 (by decide +kernel) (by decide +kernel)
theorem gl_w30 : Cond.classLink "GrammarMachineLaw" 8 "GrammarMachine" ∈ gm_WS := gm_m 30 (by decide +kernel) (by decide +kernel)
theorem gl_w31 : Cond.instantiable "GrammarMachine" 8 ∈ gm_WS := gm_m 31 (by decide +kernel) (by decide +kernel)
theorem gl_w32 : Cond.methodLink "GrammarMachineLaw" 43 ⟨"GrammarMachine", "<init>", "()V"⟩ ∈ gm_WS := gm_m 32 (by decide +kernel) (by decide +kernel)
theorem gl_w33 : Cond.instanceMethod ⟨"GrammarMachine", "<init>", "()V"⟩ ∈ gm_WS := gm_m 33 (by decide +kernel) (by decide +kernel)
theorem gl_w114 : Cond.arrayClass .long ∈ gm_WS := gm_m 114 (by decide +kernel) (by decide +kernel)
theorem gl_w140 : Cond.methodLink "GrammarMachineLaw" 63 ⟨"GrammarMachine", "shown", "(II)C"⟩ ∈ gm_WS := gm_m 140 (by decide +kernel) (by decide +kernel)
theorem gl_w141 : Cond.instanceMethod ⟨"GrammarMachine", "shown", "(II)C"⟩ ∈ gm_WS := gm_m 141 (by decide +kernel) (by decide +kernel)
theorem gl_w142 : Cond.selects "GrammarMachine" ⟨"GrammarMachine", "shown", "(II)C"⟩ ⟨"GrammarMachine", "shown", "(II)C"⟩ ∈ gm_WS := gm_m 142 (by decide +kernel) (by decide +kernel)
theorem gl_w151 : Cond.methodLink "GrammarMachineLaw" 71 ⟨"GrammarMachine", "clear", "()I"⟩ ∈ gm_WS := gm_m 151 (by decide +kernel) (by decide +kernel)
theorem gl_w152 : Cond.instanceMethod ⟨"GrammarMachine", "clear", "()I"⟩ ∈ gm_WS := gm_m 152 (by decide +kernel) (by decide +kernel)
theorem gl_w153 : Cond.selects "GrammarMachine" ⟨"GrammarMachine", "clear", "()I"⟩ ⟨"GrammarMachine", "clear", "()I"⟩ ∈ gm_WS := gm_m 153 (by decide +kernel) (by decide +kernel)
theorem gl_w155 : Cond.methodLink "GrammarMachineLaw" 85 ⟨"GrammarMachine", "captures", "()I"⟩ ∈ gm_WS := gm_m 155 (by decide +kernel) (by decide +kernel)
theorem gl_w156 : Cond.instanceMethod ⟨"GrammarMachine", "captures", "()I"⟩ ∈ gm_WS := gm_m 156 (by decide +kernel) (by decide +kernel)
theorem gl_w157 : Cond.selects "GrammarMachine" ⟨"GrammarMachine", "captures", "()I"⟩ ⟨"GrammarMachine", "captures", "()I"⟩ ∈ gm_WS := gm_m 157 (by decide +kernel) (by decide +kernel)
theorem gl_w163 : Cond.methodLink "GrammarMachineLaw" 92 ⟨"GrammarMachine", "farthest", "()I"⟩ ∈ gm_WS := gm_m 163 (by decide +kernel) (by decide +kernel)
theorem gl_w164 : Cond.instanceMethod ⟨"GrammarMachine", "farthest", "()I"⟩ ∈ gm_WS := gm_m 164 (by decide +kernel) (by decide +kernel)
theorem gl_w165 : Cond.selects "GrammarMachine" ⟨"GrammarMachine", "farthest", "()I"⟩ ⟨"GrammarMachine", "farthest", "()I"⟩ ∈ gm_WS := gm_m 165 (by decide +kernel) (by decide +kernel)
theorem gl_w171 : Cond.methodLink "GrammarMachineLaw" 96 ⟨"GrammarMachine", "tried", "()I"⟩ ∈ gm_WS := gm_m 171 (by decide +kernel) (by decide +kernel)
theorem gl_w172 : Cond.instanceMethod ⟨"GrammarMachine", "tried", "()I"⟩ ∈ gm_WS := gm_m 172 (by decide +kernel) (by decide +kernel)
theorem gl_w173 : Cond.selects "GrammarMachine" ⟨"GrammarMachine", "tried", "()I"⟩ ⟨"GrammarMachine", "tried", "()I"⟩ ∈ gm_WS := gm_m 173 (by decide +kernel) (by decide +kernel)
theorem gl_w185 : Cond.methodLink "GrammarMachineLaw" 47 ⟨"GrammarMachineLaw", "type", "(LGrammarMachine;I[J)I"⟩ ∈ gm_WS := gm_m 185 (by decide +kernel) (by decide +kernel)
theorem gl_w186 : Cond.static ⟨"GrammarMachineLaw", "type", "(LGrammarMachine;I[J)I"⟩ ∈ gm_WS := gm_m 186 (by decide +kernel) (by decide +kernel)
theorem gl_w188 : Cond.classLink "GrammarMachineLaw" 13 "java/lang/IllegalArgumentException" ∈ gm_WS := gm_m 188 (by decide +kernel) (by decide +kernel)
theorem gl_w189 : Cond.methodLink "GrammarMachineLaw" 7 ⟨"GrammarMachine", "type", "(I)Z"⟩ ∈ gm_WS := gm_m 189 (by decide +kernel) (by decide +kernel)
theorem gl_w190 : Cond.instanceMethod ⟨"GrammarMachine", "type", "(I)Z"⟩ ∈ gm_WS := gm_m 190 (by decide +kernel) (by decide +kernel)
theorem gl_w191 : Cond.selects "GrammarMachine" ⟨"GrammarMachine", "type", "(I)Z"⟩ ⟨"GrammarMachine", "type", "(I)Z"⟩ ∈ gm_WS := gm_m 191 (by decide +kernel) (by decide +kernel)
theorem gl_n204 {L : Nat} {xs : Nat → Int32} : ∀ sp A U H, gl_G L xs sp A U H → va_Nw (.castable "java/lang/IllegalArgumentException" "java/lang/IllegalArgumentException") U := fun sp A U H h => gc_nw (.castable "java/lang/IllegalArgumentException" "java/lang/IllegalArgumentException") 204 (by decide +kernel) (by decide +kernel) sp A U H h.1
theorem gl_w265 : Cond.methodLink "GrammarMachineLaw" 56 ⟨"GrammarMachineLaw", "define", "(LGrammarMachine;[J)I"⟩ ∈ gm_WS := gm_m 265 (by decide +kernel) (by decide +kernel)
theorem gl_w266 : Cond.static ⟨"GrammarMachineLaw", "define", "(LGrammarMachine;[J)I"⟩ ∈ gm_WS := gm_m 266 (by decide +kernel) (by decide +kernel)
theorem gl_w268 : Cond.methodLink "GrammarMachineLaw" 15 ⟨"GrammarMachine", "define", "()I"⟩ ∈ gm_WS := gm_m 268 (by decide +kernel) (by decide +kernel)
theorem gl_w269 : Cond.instanceMethod ⟨"GrammarMachine", "define", "()I"⟩ ∈ gm_WS := gm_m 269 (by decide +kernel) (by decide +kernel)
theorem gl_w270 : Cond.selects "GrammarMachine" ⟨"GrammarMachine", "define", "()I"⟩ ⟨"GrammarMachine", "define", "()I"⟩ ∈ gm_WS := gm_m 270 (by decide +kernel) (by decide +kernel)
theorem gl_w533 : Cond.methodLink "GrammarMachineLaw" 60 ⟨"GrammarMachineLaw", "drop", "(LGrammarMachine;I[J)I"⟩ ∈ gm_WS := gm_m 533 (by decide +kernel) (by decide +kernel)
theorem gl_w534 : Cond.static ⟨"GrammarMachineLaw", "drop", "(LGrammarMachine;I[J)I"⟩ ∈ gm_WS := gm_m 534 (by decide +kernel) (by decide +kernel)
theorem gl_w536 : Cond.classLink "GrammarMachineLaw" 22 "java/lang/IndexOutOfBoundsException" ∈ gm_WS := gm_m 536 (by decide +kernel) (by decide +kernel)
theorem gl_w537 : Cond.methodLink "GrammarMachineLaw" 19 ⟨"GrammarMachine", "drop", "(I)Z"⟩ ∈ gm_WS := gm_m 537 (by decide +kernel) (by decide +kernel)
theorem gl_w538 : Cond.instanceMethod ⟨"GrammarMachine", "drop", "(I)Z"⟩ ∈ gm_WS := gm_m 538 (by decide +kernel) (by decide +kernel)
theorem gl_w539 : Cond.selects "GrammarMachine" ⟨"GrammarMachine", "drop", "(I)Z"⟩ ⟨"GrammarMachine", "drop", "(I)Z"⟩ ∈ gm_WS := gm_m 539 (by decide +kernel) (by decide +kernel)
theorem gl_n546 {L : Nat} {xs : Nat → Int32} : ∀ sp A U H, gl_G L xs sp A U H → va_Nw (.castable "java/lang/IndexOutOfBoundsException" "java/lang/IndexOutOfBoundsException") U := fun sp A U H h => gc_nw (.castable "java/lang/IndexOutOfBoundsException" "java/lang/IndexOutOfBoundsException") 546 (by decide +kernel) (by decide +kernel) sp A U H h.1
theorem gl_w560 : Cond.methodLink "GrammarMachineLaw" 68 ⟨"GrammarMachineLaw", "text", "(LGrammarMachine;I[J)I"⟩ ∈ gm_WS := gm_m 560 (by decide +kernel) (by decide +kernel)
theorem gl_w561 : Cond.static ⟨"GrammarMachineLaw", "text", "(LGrammarMachine;I[J)I"⟩ ∈ gm_WS := gm_m 561 (by decide +kernel) (by decide +kernel)
theorem gl_w563 : Cond.methodLink "GrammarMachineLaw" 24 ⟨"GrammarMachine", "text", "(I)Z"⟩ ∈ gm_WS := gm_m 563 (by decide +kernel) (by decide +kernel)
theorem gl_w564 : Cond.instanceMethod ⟨"GrammarMachine", "text", "(I)Z"⟩ ∈ gm_WS := gm_m 564 (by decide +kernel) (by decide +kernel)
theorem gl_w565 : Cond.selects "GrammarMachine" ⟨"GrammarMachine", "text", "(I)Z"⟩ ⟨"GrammarMachine", "text", "(I)Z"⟩ ∈ gm_WS := gm_m 565 (by decide +kernel) (by decide +kernel)
theorem gl_w567 : Cond.methodLink "GrammarMachineLaw" 75 ⟨"GrammarMachineLaw", "check", "(LGrammarMachine;I[J)I"⟩ ∈ gm_WS := gm_m 567 (by decide +kernel) (by decide +kernel)
theorem gl_w568 : Cond.static ⟨"GrammarMachineLaw", "check", "(LGrammarMachine;I[J)I"⟩ ∈ gm_WS := gm_m 568 (by decide +kernel) (by decide +kernel)
theorem gl_w570 : Cond.methodLink "GrammarMachineLaw" 27 ⟨"GrammarMachine", "check", "(I)I"⟩ ∈ gm_WS := gm_m 570 (by decide +kernel) (by decide +kernel)
theorem gl_w571 : Cond.instanceMethod ⟨"GrammarMachine", "check", "(I)I"⟩ ∈ gm_WS := gm_m 571 (by decide +kernel) (by decide +kernel)
theorem gl_w572 : Cond.selects "GrammarMachine" ⟨"GrammarMachine", "check", "(I)I"⟩ ⟨"GrammarMachine", "check", "(I)I"⟩ ∈ gm_WS := gm_m 572 (by decide +kernel) (by decide +kernel)
theorem gl_w726 : Cond.methodLink "GrammarMachineLaw" 78 ⟨"GrammarMachineLaw", "match", "(LGrammarMachine;II[J)I"⟩ ∈ gm_WS := gm_m 726 (by decide +kernel) (by decide +kernel)
theorem gl_w727 : Cond.static ⟨"GrammarMachineLaw", "match", "(LGrammarMachine;II[J)I"⟩ ∈ gm_WS := gm_m 727 (by decide +kernel) (by decide +kernel)
theorem gl_w729 : Cond.classLink "GrammarMachineLaw" 35 "java/lang/IllegalStateException" ∈ gm_WS := gm_m 729 (by decide +kernel) (by decide +kernel)
theorem gl_w730 : Cond.methodLink "GrammarMachineLaw" 31 ⟨"GrammarMachine", "match", "(II)I"⟩ ∈ gm_WS := gm_m 730 (by decide +kernel) (by decide +kernel)
theorem gl_w731 : Cond.instanceMethod ⟨"GrammarMachine", "match", "(II)I"⟩ ∈ gm_WS := gm_m 731 (by decide +kernel) (by decide +kernel)
theorem gl_w732 : Cond.selects "GrammarMachine" ⟨"GrammarMachine", "match", "(II)I"⟩ ⟨"GrammarMachine", "match", "(II)I"⟩ ∈ gm_WS := gm_m 732 (by decide +kernel) (by decide +kernel)
theorem gl_n740 {L : Nat} {xs : Nat → Int32} : ∀ sp A U H, gl_G L xs sp A U H → va_Nw (.castable "java/lang/IllegalStateException" "java/lang/IllegalStateException") U := fun sp A U H h => gc_nw (.castable "java/lang/IllegalStateException" "java/lang/IllegalStateException") 740 (by decide +kernel) (by decide +kernel) sp A U H h.1
theorem gl_w838 : Cond.methodLink "GrammarMachineLaw" 82 ⟨"GrammarMachineLaw", "find", "(LGrammarMachine;I[J)I"⟩ ∈ gm_WS := gm_m 838 (by decide +kernel) (by decide +kernel)
theorem gl_w839 : Cond.static ⟨"GrammarMachineLaw", "find", "(LGrammarMachine;I[J)I"⟩ ∈ gm_WS := gm_m 839 (by decide +kernel) (by decide +kernel)
theorem gl_w841 : Cond.methodLink "GrammarMachineLaw" 37 ⟨"GrammarMachine", "find", "(I)I"⟩ ∈ gm_WS := gm_m 841 (by decide +kernel) (by decide +kernel)
theorem gl_w842 : Cond.instanceMethod ⟨"GrammarMachine", "find", "(I)I"⟩ ∈ gm_WS := gm_m 842 (by decide +kernel) (by decide +kernel)
theorem gl_w843 : Cond.selects "GrammarMachine" ⟨"GrammarMachine", "find", "(I)I"⟩ ⟨"GrammarMachine", "find", "(I)I"⟩ ∈ gm_WS := gm_m 843 (by decide +kernel) (by decide +kernel)
theorem gl_w845 : Cond.methodLink "GrammarMachineLaw" 89 ⟨"GrammarMachineLaw", "capture", "(LGrammarMachine;II[J)I"⟩ ∈ gm_WS := gm_m 845 (by decide +kernel) (by decide +kernel)
theorem gl_w846 : Cond.static ⟨"GrammarMachineLaw", "capture", "(LGrammarMachine;II[J)I"⟩ ∈ gm_WS := gm_m 846 (by decide +kernel) (by decide +kernel)
theorem gl_w848 : Cond.methodLink "GrammarMachineLaw" 40 ⟨"GrammarMachine", "capture", "(II)I"⟩ ∈ gm_WS := gm_m 848 (by decide +kernel) (by decide +kernel)
theorem gl_w849 : Cond.instanceMethod ⟨"GrammarMachine", "capture", "(II)I"⟩ ∈ gm_WS := gm_m 849 (by decide +kernel) (by decide +kernel)
theorem gl_w850 : Cond.selects "GrammarMachine" ⟨"GrammarMachine", "capture", "(II)I"⟩ ⟨"GrammarMachine", "capture", "(II)I"⟩ ∈ gm_WS := gm_m 850 (by decide +kernel) (by decide +kernel)
theorem gl_w855 : Cond.classLink "GrammarMachineLaw" 44 "GrammarMachineModel" ∈ gm_WS := gm_m 855 (by decide +kernel) (by decide +kernel)
theorem gl_w856 : Cond.instantiable "GrammarMachineModel" 35 ∈ gm_WS := gm_m 856 (by decide +kernel) (by decide +kernel)
theorem gl_w857 : Cond.methodLink "GrammarMachineLaw" 46 ⟨"GrammarMachineModel", "<init>", "()V"⟩ ∈ gm_WS := gm_m 857 (by decide +kernel) (by decide +kernel)
theorem gl_w858 : Cond.instanceMethod ⟨"GrammarMachineModel", "<init>", "()V"⟩ ∈ gm_WS := gm_m 858 (by decide +kernel) (by decide +kernel)
theorem gl_w968 : Cond.methodLink "GrammarMachineLaw" 53 ⟨"GrammarMachineModel", "thrown", "()I"⟩ ∈ gm_WS := gm_m 968 (by decide +kernel) (by decide +kernel)
theorem gl_w969 : Cond.instanceMethod ⟨"GrammarMachineModel", "thrown", "()I"⟩ ∈ gm_WS := gm_m 969 (by decide +kernel) (by decide +kernel)
theorem gl_w970 : Cond.selects "GrammarMachineModel" ⟨"GrammarMachineModel", "thrown", "()I"⟩ ⟨"GrammarMachineModel", "thrown", "()I"⟩ ∈ gm_WS := gm_m 970 (by decide +kernel) (by decide +kernel)
theorem gl_w972 : Cond.methodLink "GrammarMachineLaw" 52 ⟨"GrammarMachineModel", "type", "(I)Z"⟩ ∈ gm_WS := gm_m 972 (by decide +kernel) (by decide +kernel)
theorem gl_w973 : Cond.instanceMethod ⟨"GrammarMachineModel", "type", "(I)Z"⟩ ∈ gm_WS := gm_m 973 (by decide +kernel) (by decide +kernel)
theorem gl_w974 : Cond.selects "GrammarMachineModel" ⟨"GrammarMachineModel", "type", "(I)Z"⟩ ⟨"GrammarMachineModel", "type", "(I)Z"⟩ ∈ gm_WS := gm_m 974 (by decide +kernel) (by decide +kernel)
theorem gl_w979 : Cond.methodLink "GrammarMachineLaw" 70 ⟨"GrammarMachineModel", "text", "(I)Z"⟩ ∈ gm_WS := gm_m 979 (by decide +kernel) (by decide +kernel)
theorem gl_w980 : Cond.instanceMethod ⟨"GrammarMachineModel", "text", "(I)Z"⟩ ∈ gm_WS := gm_m 980 (by decide +kernel) (by decide +kernel)
theorem gl_w981 : Cond.selects "GrammarMachineModel" ⟨"GrammarMachineModel", "text", "(I)Z"⟩ ⟨"GrammarMachineModel", "text", "(I)Z"⟩ ∈ gm_WS := gm_m 981 (by decide +kernel) (by decide +kernel)
theorem gl_w983 : Cond.methodLink "GrammarMachineLaw" 74 ⟨"GrammarMachineModel", "clear", "()I"⟩ ∈ gm_WS := gm_m 983 (by decide +kernel) (by decide +kernel)
theorem gl_w984 : Cond.instanceMethod ⟨"GrammarMachineModel", "clear", "()I"⟩ ∈ gm_WS := gm_m 984 (by decide +kernel) (by decide +kernel)
theorem gl_w985 : Cond.selects "GrammarMachineModel" ⟨"GrammarMachineModel", "clear", "()I"⟩ ⟨"GrammarMachineModel", "clear", "()I"⟩ ∈ gm_WS := gm_m 985 (by decide +kernel) (by decide +kernel)
theorem gl_w987 : Cond.methodLink "GrammarMachineLaw" 59 ⟨"GrammarMachineModel", "define", "()I"⟩ ∈ gm_WS := gm_m 987 (by decide +kernel) (by decide +kernel)
theorem gl_w988 : Cond.instanceMethod ⟨"GrammarMachineModel", "define", "()I"⟩ ∈ gm_WS := gm_m 988 (by decide +kernel) (by decide +kernel)
theorem gl_w989 : Cond.selects "GrammarMachineModel" ⟨"GrammarMachineModel", "define", "()I"⟩ ⟨"GrammarMachineModel", "define", "()I"⟩ ∈ gm_WS := gm_m 989 (by decide +kernel) (by decide +kernel)
theorem gl_w1038 : Cond.methodLink "GrammarMachineLaw" 62 ⟨"GrammarMachineModel", "drop", "(I)Z"⟩ ∈ gm_WS := gm_m 1038 (by decide +kernel) (by decide +kernel)
theorem gl_w1039 : Cond.instanceMethod ⟨"GrammarMachineModel", "drop", "(I)Z"⟩ ∈ gm_WS := gm_m 1039 (by decide +kernel) (by decide +kernel)
theorem gl_w1040 : Cond.selects "GrammarMachineModel" ⟨"GrammarMachineModel", "drop", "(I)Z"⟩ ⟨"GrammarMachineModel", "drop", "(I)Z"⟩ ∈ gm_WS := gm_m 1040 (by decide +kernel) (by decide +kernel)
theorem gl_w1045 : Cond.methodLink "GrammarMachineLaw" 67 ⟨"GrammarMachineModel", "shown", "(II)C"⟩ ∈ gm_WS := gm_m 1045 (by decide +kernel) (by decide +kernel)
theorem gl_w1046 : Cond.instanceMethod ⟨"GrammarMachineModel", "shown", "(II)C"⟩ ∈ gm_WS := gm_m 1046 (by decide +kernel) (by decide +kernel)
theorem gl_w1047 : Cond.selects "GrammarMachineModel" ⟨"GrammarMachineModel", "shown", "(II)C"⟩ ⟨"GrammarMachineModel", "shown", "(II)C"⟩ ∈ gm_WS := gm_m 1047 (by decide +kernel) (by decide +kernel)
theorem gl_w1049 : Cond.methodLink "GrammarMachineLaw" 77 ⟨"GrammarMachineModel", "check", "(I)I"⟩ ∈ gm_WS := gm_m 1049 (by decide +kernel) (by decide +kernel)
theorem gl_w1050 : Cond.instanceMethod ⟨"GrammarMachineModel", "check", "(I)I"⟩ ∈ gm_WS := gm_m 1050 (by decide +kernel) (by decide +kernel)
theorem gl_w1051 : Cond.selects "GrammarMachineModel" ⟨"GrammarMachineModel", "check", "(I)I"⟩ ⟨"GrammarMachineModel", "check", "(I)I"⟩ ∈ gm_WS := gm_m 1051 (by decide +kernel) (by decide +kernel)
theorem gl_w1077 : Cond.methodLink "GrammarMachineLaw" 81 ⟨"GrammarMachineModel", "match", "(II)I"⟩ ∈ gm_WS := gm_m 1077 (by decide +kernel) (by decide +kernel)
theorem gl_w1078 : Cond.instanceMethod ⟨"GrammarMachineModel", "match", "(II)I"⟩ ∈ gm_WS := gm_m 1078 (by decide +kernel) (by decide +kernel)
theorem gl_w1079 : Cond.selects "GrammarMachineModel" ⟨"GrammarMachineModel", "match", "(II)I"⟩ ⟨"GrammarMachineModel", "match", "(II)I"⟩ ∈ gm_WS := gm_m 1079 (by decide +kernel) (by decide +kernel)
theorem gl_w1137 : Cond.methodLink "GrammarMachineLaw" 84 ⟨"GrammarMachineModel", "find", "(I)I"⟩ ∈ gm_WS := gm_m 1137 (by decide +kernel) (by decide +kernel)
theorem gl_w1138 : Cond.instanceMethod ⟨"GrammarMachineModel", "find", "(I)I"⟩ ∈ gm_WS := gm_m 1138 (by decide +kernel) (by decide +kernel)
theorem gl_w1139 : Cond.selects "GrammarMachineModel" ⟨"GrammarMachineModel", "find", "(I)I"⟩ ⟨"GrammarMachineModel", "find", "(I)I"⟩ ∈ gm_WS := gm_m 1139 (by decide +kernel) (by decide +kernel)
theorem gl_w1141 : Cond.methodLink "GrammarMachineLaw" 88 ⟨"GrammarMachineModel", "captures", "()I"⟩ ∈ gm_WS := gm_m 1141 (by decide +kernel) (by decide +kernel)
theorem gl_w1142 : Cond.instanceMethod ⟨"GrammarMachineModel", "captures", "()I"⟩ ∈ gm_WS := gm_m 1142 (by decide +kernel) (by decide +kernel)
theorem gl_w1143 : Cond.selects "GrammarMachineModel" ⟨"GrammarMachineModel", "captures", "()I"⟩ ⟨"GrammarMachineModel", "captures", "()I"⟩ ∈ gm_WS := gm_m 1143 (by decide +kernel) (by decide +kernel)
theorem gl_w1145 : Cond.methodLink "GrammarMachineLaw" 91 ⟨"GrammarMachineModel", "capture", "(II)I"⟩ ∈ gm_WS := gm_m 1145 (by decide +kernel) (by decide +kernel)
theorem gl_w1146 : Cond.instanceMethod ⟨"GrammarMachineModel", "capture", "(II)I"⟩ ∈ gm_WS := gm_m 1146 (by decide +kernel) (by decide +kernel)
theorem gl_w1147 : Cond.selects "GrammarMachineModel" ⟨"GrammarMachineModel", "capture", "(II)I"⟩ ⟨"GrammarMachineModel", "capture", "(II)I"⟩ ∈ gm_WS := gm_m 1147 (by decide +kernel) (by decide +kernel)
theorem gl_w1149 : Cond.methodLink "GrammarMachineLaw" 95 ⟨"GrammarMachineModel", "farthest", "()I"⟩ ∈ gm_WS := gm_m 1149 (by decide +kernel) (by decide +kernel)
theorem gl_w1150 : Cond.instanceMethod ⟨"GrammarMachineModel", "farthest", "()I"⟩ ∈ gm_WS := gm_m 1150 (by decide +kernel) (by decide +kernel)
theorem gl_w1151 : Cond.selects "GrammarMachineModel" ⟨"GrammarMachineModel", "farthest", "()I"⟩ ⟨"GrammarMachineModel", "farthest", "()I"⟩ ∈ gm_WS := gm_m 1151 (by decide +kernel) (by decide +kernel)
theorem gl_w1153 : Cond.methodLink "GrammarMachineLaw" 99 ⟨"GrammarMachineModel", "tried", "()I"⟩ ∈ gm_WS := gm_m 1153 (by decide +kernel) (by decide +kernel)
theorem gl_w1154 : Cond.instanceMethod ⟨"GrammarMachineModel", "tried", "()I"⟩ ∈ gm_WS := gm_m 1154 (by decide +kernel) (by decide +kernel)
theorem gl_w1155 : Cond.selects "GrammarMachineModel" ⟨"GrammarMachineModel", "tried", "()I"⟩ ⟨"GrammarMachineModel", "tried", "()I"⟩ ∈ gm_WS := gm_m 1155 (by decide +kernel) (by decide +kernel)
def gl_y1 : MethodName := ⟨"GrammarMachineLaw", "type", "(LGrammarMachine;I[J)I"⟩
def gl_hh1 : List (Nat × Nat × Nat × Nat) := [(0, 16, 19, 13)]
theorem gl_k1 : Cond.codeWith gl_y1 method_3_code 4 (some .int) gl_hh1 ∈ gm_WS := gm_m 187 (by decide +kernel) (by decide +kernel)
def gl_z1 (L : Nat) (xs : Nat → Int32) : gx_M := (gm_cl, gm_tyl, gl_G L xs, Cond.codeWith gl_y1 method_3_code 4 (some .int) gl_hh1 :: gm_WS, method_3_code, gl_y1, 4, some .int)
def gl_y2 : MethodName := ⟨"GrammarMachineLaw", "define", "(LGrammarMachine;[J)I"⟩
def gl_hh2 : List (Nat × Nat × Nat × Nat) := [(0, 8, 11, 13)]
theorem gl_k2 : Cond.codeWith gl_y2 method_4_code 3 (some .int) gl_hh2 ∈ gm_WS := gm_m 267 (by decide +kernel) (by decide +kernel)
def gl_z2 (L : Nat) (xs : Nat → Int32) : gx_M := (gm_cl, gm_tyl, gl_G L xs, Cond.codeWith gl_y2 method_4_code 3 (some .int) gl_hh2 :: gm_WS, method_4_code, gl_y2, 3, some .int)
def gl_y3 : MethodName := ⟨"GrammarMachineLaw", "drop", "(LGrammarMachine;I[J)I"⟩
def gl_hh3 : List (Nat × Nat × Nat × Nat) := [(0, 16, 19, 22)]
theorem gl_k3 : Cond.codeWith gl_y3 method_5_code 4 (some .int) gl_hh3 ∈ gm_WS := gm_m 535 (by decide +kernel) (by decide +kernel)
def gl_z3 (L : Nat) (xs : Nat → Int32) : gx_M := (gm_cl, gm_tyl, gl_G L xs, Cond.codeWith gl_y3 method_5_code 4 (some .int) gl_hh3 :: gm_WS, method_5_code, gl_y3, 4, some .int)
def gl_y4 : MethodName := ⟨"GrammarMachineLaw", "text", "(LGrammarMachine;I[J)I"⟩
def gl_hh4 : List (Nat × Nat × Nat × Nat) := [(0, 16, 19, 13)]
theorem gl_k4 : Cond.codeWith gl_y4 method_6_code 4 (some .int) gl_hh4 ∈ gm_WS := gm_m 562 (by decide +kernel) (by decide +kernel)
def gl_z4 (L : Nat) (xs : Nat → Int32) : gx_M := (gm_cl, gm_tyl, gl_G L xs, Cond.codeWith gl_y4 method_6_code 4 (some .int) gl_hh4 :: gm_WS, method_6_code, gl_y4, 4, some .int)
def gl_y5 : MethodName := ⟨"GrammarMachineLaw", "check", "(LGrammarMachine;I[J)I"⟩
def gl_hh5 : List (Nat × Nat × Nat × Nat) := [(0, 9, 12, 22)]
theorem gl_k5 : Cond.codeWith gl_y5 method_7_code 4 (some .int) gl_hh5 ∈ gm_WS := gm_m 569 (by decide +kernel) (by decide +kernel)
def gl_z5 (L : Nat) (xs : Nat → Int32) : gx_M := (gm_cl, gm_tyl, gl_G L xs, Cond.codeWith gl_y5 method_7_code 4 (some .int) gl_hh5 :: gm_WS, method_7_code, gl_y5, 4, some .int)
def gl_y6 : MethodName := ⟨"GrammarMachineLaw", "match", "(LGrammarMachine;II[J)I"⟩
def gl_hh6 : List (Nat × Nat × Nat × Nat) := [(0, 10, 13, 22), (0, 10, 17, 35)]
theorem gl_k6 : Cond.codeWith gl_y6 method_8_code 5 (some .int) gl_hh6 ∈ gm_WS := gm_m 728 (by decide +kernel) (by decide +kernel)
def gl_z6 (L : Nat) (xs : Nat → Int32) : gx_M := (gm_cl, gm_tyl, gl_G L xs, Cond.codeWith gl_y6 method_8_code 5 (some .int) gl_hh6 :: gm_WS, method_8_code, gl_y6, 5, some .int)
def gl_y7 : MethodName := ⟨"GrammarMachineLaw", "find", "(LGrammarMachine;I[J)I"⟩
def gl_hh7 : List (Nat × Nat × Nat × Nat) := [(0, 9, 12, 22), (0, 9, 15, 35)]
theorem gl_k7 : Cond.codeWith gl_y7 method_9_code 4 (some .int) gl_hh7 ∈ gm_WS := gm_m 840 (by decide +kernel) (by decide +kernel)
def gl_z7 (L : Nat) (xs : Nat → Int32) : gx_M := (gm_cl, gm_tyl, gl_G L xs, Cond.codeWith gl_y7 method_9_code 4 (some .int) gl_hh7 :: gm_WS, method_9_code, gl_y7, 4, some .int)
def gl_y8 : MethodName := ⟨"GrammarMachineLaw", "capture", "(LGrammarMachine;II[J)I"⟩
def gl_hh8 : List (Nat × Nat × Nat × Nat) := [(0, 10, 13, 22)]
theorem gl_k8 : Cond.codeWith gl_y8 method_10_code 5 (some .int) gl_hh8 ∈ gm_WS := gm_m 847 (by decide +kernel) (by decide +kernel)
def gl_z8 (L : Nat) (xs : Nat → Int32) : gx_M := (gm_cl, gm_tyl, gl_G L xs, Cond.codeWith gl_y8 method_10_code 5 (some .int) gl_hh8 :: gm_WS, method_10_code, gl_y8, 5, some .int)
def gl_zz (L : Nat) (xs : Nat → Int32) : gx_M := (gm_cl, gm_tyl, gl_G L xs, gl_hd :: gm_WS, code, x, 7, ret)
theorem gl_e1_0 : decode method_3_code 0 = .ok (.aload_n 2, 1) := by decide +kernel
theorem gl_e1_1 : decode method_3_code 1 = .ok (.iconst (0), 1) := by decide +kernel
theorem gl_e1_2 : decode method_3_code 2 = .ok (.aload_n 0, 1) := by decide +kernel
theorem gl_e1_3 : decode method_3_code 3 = .ok (.iload_n 1, 1) := by decide +kernel
theorem gl_e1_4 : decode method_3_code 4 = .ok (.invokevirtual 7, 3) := by decide +kernel
theorem gl_e1_7 : decode method_3_code 7 = .ok (.ifCond .eq (7), 3) := by decide +kernel
theorem gl_e1_10 : decode method_3_code 10 = .ok (.lconst 1, 1) := by decide +kernel
theorem gl_e1_11 : decode method_3_code 11 = .ok (.goto (4), 3) := by decide +kernel
theorem gl_e1_14 : decode method_3_code 14 = .ok (.lconst 0, 1) := by decide +kernel
theorem gl_e1_15 : decode method_3_code 15 = .ok (.lastore, 1) := by decide +kernel
theorem gl_e1_16 : decode method_3_code 16 = .ok (.goto (6), 3) := by decide +kernel
theorem gl_e1_20 : decode method_3_code 20 = .ok (.iconst (1), 1) := by decide +kernel
theorem gl_e1_21 : decode method_3_code 21 = .ok (.ireturn, 1) := by decide +kernel
theorem gl_e1_22 : decode method_3_code 22 = .ok (.iconst (0), 1) := by decide +kernel
theorem gl_e1_23 : decode method_3_code 23 = .ok (.ireturn, 1) := by decide +kernel
def gl_tb1 : List (Nat × gx_T) := [(0, gi_ld gx_isR 2 1),
  (1, gi_k (.int (0)) 2),
  (2, gi_ld gx_isR 0 3),
  (3, gi_ld gx_isI 1 4),
  (7, gi_if (fun x => x = 0) (fun x => ¬ x = 0) 14 10),
  (10, gi_k (.long (1)) 11),
  (11, gi_goto 15),
  (14, gi_k (.long (0)) 15),
  (16, gi_goto 22),
  (20, gi_k (.int (1)) 21),
  (22, gi_k (.int (0)) 23)]
set_option maxRecDepth 100000 in
set_option maxHeartbeats 4000000 in
theorem gl_tb1_ok (L : Nat) (xs : Nat → Int32) : gx_all (gx_s1 (gl_z1 L xs)) (gl_tb1) :=
  ⟨gq_aload_n gl_e1_0,
   gq_iconst gl_e1_1 (by decide),
   gq_aload_n gl_e1_2,
   gq_iload_n gl_e1_3,
   gq_if_eq gl_e1_7 (by decide),
   gq_lconst gl_e1_10 (by decide),
   gq_goto gl_e1_11 (by decide),
   gq_lconst gl_e1_14 (by decide),
   gq_goto gl_e1_16 (by decide),
   gq_iconst gl_e1_20 (by decide),
   gq_iconst gl_e1_22 (by decide), trivial⟩
theorem gl_e1_19 : decode method_3_code 19 = .ok (.astore_n 3, 1) := by decide +kernel
theorem gl_e2_0 : decode method_4_code 0 = .ok (.aload_n 1, 1) := by decide +kernel
theorem gl_e2_1 : decode method_4_code 1 = .ok (.iconst (0), 1) := by decide +kernel
theorem gl_e2_2 : decode method_4_code 2 = .ok (.aload_n 0, 1) := by decide +kernel
theorem gl_e2_3 : decode method_4_code 3 = .ok (.invokevirtual 15, 3) := by decide +kernel
theorem gl_e2_6 : decode method_4_code 6 = .ok (.i2l, 1) := by decide +kernel
theorem gl_e2_7 : decode method_4_code 7 = .ok (.lastore, 1) := by decide +kernel
theorem gl_e2_8 : decode method_4_code 8 = .ok (.goto (6), 3) := by decide +kernel
theorem gl_e2_12 : decode method_4_code 12 = .ok (.iconst (1), 1) := by decide +kernel
theorem gl_e2_13 : decode method_4_code 13 = .ok (.ireturn, 1) := by decide +kernel
theorem gl_e2_14 : decode method_4_code 14 = .ok (.iconst (0), 1) := by decide +kernel
theorem gl_e2_15 : decode method_4_code 15 = .ok (.ireturn, 1) := by decide +kernel
def gl_tb2 : List (Nat × gx_T) := [(0, gi_ld gx_isR 1 1),
  (1, gi_k (.int (0)) 2),
  (2, gi_ld gx_isR 0 3),
  (6, gi_i2l 7),
  (8, gi_goto 14),
  (12, gi_k (.int (1)) 13),
  (14, gi_k (.int (0)) 15)]
set_option maxRecDepth 100000 in
set_option maxHeartbeats 4000000 in
theorem gl_tb2_ok (L : Nat) (xs : Nat → Int32) : gx_all (gx_s1 (gl_z2 L xs)) (gl_tb2) :=
  ⟨gq_aload_n gl_e2_0,
   gq_iconst gl_e2_1 (by decide),
   gq_aload_n gl_e2_2,
   gs_i2l gl_e2_6,
   gq_goto gl_e2_8 (by decide),
   gq_iconst gl_e2_12 (by decide),
   gq_iconst gl_e2_14 (by decide), trivial⟩
theorem gl_e2_11 : decode method_4_code 11 = .ok (.astore_n 2, 1) := by decide +kernel
theorem gl_e3_0 : decode method_5_code 0 = .ok (.aload_n 2, 1) := by decide +kernel
theorem gl_e3_1 : decode method_5_code 1 = .ok (.iconst (0), 1) := by decide +kernel
theorem gl_e3_2 : decode method_5_code 2 = .ok (.aload_n 0, 1) := by decide +kernel
theorem gl_e3_3 : decode method_5_code 3 = .ok (.iload_n 1, 1) := by decide +kernel
theorem gl_e3_4 : decode method_5_code 4 = .ok (.invokevirtual 19, 3) := by decide +kernel
theorem gl_e3_7 : decode method_5_code 7 = .ok (.ifCond .eq (7), 3) := by decide +kernel
theorem gl_e3_10 : decode method_5_code 10 = .ok (.lconst 1, 1) := by decide +kernel
theorem gl_e3_11 : decode method_5_code 11 = .ok (.goto (4), 3) := by decide +kernel
theorem gl_e3_14 : decode method_5_code 14 = .ok (.lconst 0, 1) := by decide +kernel
theorem gl_e3_15 : decode method_5_code 15 = .ok (.lastore, 1) := by decide +kernel
theorem gl_e3_16 : decode method_5_code 16 = .ok (.goto (6), 3) := by decide +kernel
theorem gl_e3_20 : decode method_5_code 20 = .ok (.iconst (1), 1) := by decide +kernel
theorem gl_e3_21 : decode method_5_code 21 = .ok (.ireturn, 1) := by decide +kernel
theorem gl_e3_22 : decode method_5_code 22 = .ok (.iconst (0), 1) := by decide +kernel
theorem gl_e3_23 : decode method_5_code 23 = .ok (.ireturn, 1) := by decide +kernel
def gl_tb3 : List (Nat × gx_T) := [(0, gi_ld gx_isR 2 1),
  (1, gi_k (.int (0)) 2),
  (2, gi_ld gx_isR 0 3),
  (3, gi_ld gx_isI 1 4),
  (7, gi_if (fun x => x = 0) (fun x => ¬ x = 0) 14 10),
  (10, gi_k (.long (1)) 11),
  (11, gi_goto 15),
  (14, gi_k (.long (0)) 15),
  (16, gi_goto 22),
  (20, gi_k (.int (1)) 21),
  (22, gi_k (.int (0)) 23)]
set_option maxRecDepth 100000 in
set_option maxHeartbeats 4000000 in
theorem gl_tb3_ok (L : Nat) (xs : Nat → Int32) : gx_all (gx_s1 (gl_z3 L xs)) (gl_tb3) :=
  ⟨gq_aload_n gl_e3_0,
   gq_iconst gl_e3_1 (by decide),
   gq_aload_n gl_e3_2,
   gq_iload_n gl_e3_3,
   gq_if_eq gl_e3_7 (by decide),
   gq_lconst gl_e3_10 (by decide),
   gq_goto gl_e3_11 (by decide),
   gq_lconst gl_e3_14 (by decide),
   gq_goto gl_e3_16 (by decide),
   gq_iconst gl_e3_20 (by decide),
   gq_iconst gl_e3_22 (by decide), trivial⟩
theorem gl_e3_19 : decode method_5_code 19 = .ok (.astore_n 3, 1) := by decide +kernel
theorem gl_e4_0 : decode method_6_code 0 = .ok (.aload_n 2, 1) := by decide +kernel
theorem gl_e4_1 : decode method_6_code 1 = .ok (.iconst (0), 1) := by decide +kernel
theorem gl_e4_2 : decode method_6_code 2 = .ok (.aload_n 0, 1) := by decide +kernel
theorem gl_e4_3 : decode method_6_code 3 = .ok (.iload_n 1, 1) := by decide +kernel
theorem gl_e4_4 : decode method_6_code 4 = .ok (.invokevirtual 24, 3) := by decide +kernel
theorem gl_e4_7 : decode method_6_code 7 = .ok (.ifCond .eq (7), 3) := by decide +kernel
theorem gl_e4_10 : decode method_6_code 10 = .ok (.lconst 1, 1) := by decide +kernel
theorem gl_e4_11 : decode method_6_code 11 = .ok (.goto (4), 3) := by decide +kernel
theorem gl_e4_14 : decode method_6_code 14 = .ok (.lconst 0, 1) := by decide +kernel
theorem gl_e4_15 : decode method_6_code 15 = .ok (.lastore, 1) := by decide +kernel
theorem gl_e4_16 : decode method_6_code 16 = .ok (.goto (6), 3) := by decide +kernel
theorem gl_e4_20 : decode method_6_code 20 = .ok (.iconst (1), 1) := by decide +kernel
theorem gl_e4_21 : decode method_6_code 21 = .ok (.ireturn, 1) := by decide +kernel
theorem gl_e4_22 : decode method_6_code 22 = .ok (.iconst (0), 1) := by decide +kernel
theorem gl_e4_23 : decode method_6_code 23 = .ok (.ireturn, 1) := by decide +kernel
def gl_tb4 : List (Nat × gx_T) := [(0, gi_ld gx_isR 2 1),
  (1, gi_k (.int (0)) 2),
  (2, gi_ld gx_isR 0 3),
  (3, gi_ld gx_isI 1 4),
  (7, gi_if (fun x => x = 0) (fun x => ¬ x = 0) 14 10),
  (10, gi_k (.long (1)) 11),
  (11, gi_goto 15),
  (14, gi_k (.long (0)) 15),
  (16, gi_goto 22),
  (20, gi_k (.int (1)) 21),
  (22, gi_k (.int (0)) 23)]
set_option maxRecDepth 100000 in
set_option maxHeartbeats 4000000 in
theorem gl_tb4_ok (L : Nat) (xs : Nat → Int32) : gx_all (gx_s1 (gl_z4 L xs)) (gl_tb4) :=
  ⟨gq_aload_n gl_e4_0,
   gq_iconst gl_e4_1 (by decide),
   gq_aload_n gl_e4_2,
   gq_iload_n gl_e4_3,
   gq_if_eq gl_e4_7 (by decide),
   gq_lconst gl_e4_10 (by decide),
   gq_goto gl_e4_11 (by decide),
   gq_lconst gl_e4_14 (by decide),
   gq_goto gl_e4_16 (by decide),
   gq_iconst gl_e4_20 (by decide),
   gq_iconst gl_e4_22 (by decide), trivial⟩
theorem gl_e4_19 : decode method_6_code 19 = .ok (.astore_n 3, 1) := by decide +kernel
theorem gl_e5_0 : decode method_7_code 0 = .ok (.aload_n 2, 1) := by decide +kernel
theorem gl_e5_1 : decode method_7_code 1 = .ok (.iconst (0), 1) := by decide +kernel
theorem gl_e5_2 : decode method_7_code 2 = .ok (.aload_n 0, 1) := by decide +kernel
theorem gl_e5_3 : decode method_7_code 3 = .ok (.iload_n 1, 1) := by decide +kernel
theorem gl_e5_4 : decode method_7_code 4 = .ok (.invokevirtual 27, 3) := by decide +kernel
theorem gl_e5_7 : decode method_7_code 7 = .ok (.i2l, 1) := by decide +kernel
theorem gl_e5_8 : decode method_7_code 8 = .ok (.lastore, 1) := by decide +kernel
theorem gl_e5_9 : decode method_7_code 9 = .ok (.goto (6), 3) := by decide +kernel
theorem gl_e5_13 : decode method_7_code 13 = .ok (.iconst (1), 1) := by decide +kernel
theorem gl_e5_14 : decode method_7_code 14 = .ok (.ireturn, 1) := by decide +kernel
theorem gl_e5_15 : decode method_7_code 15 = .ok (.iconst (0), 1) := by decide +kernel
theorem gl_e5_16 : decode method_7_code 16 = .ok (.ireturn, 1) := by decide +kernel
def gl_tb5 : List (Nat × gx_T) := [(0, gi_ld gx_isR 2 1),
  (1, gi_k (.int (0)) 2),
  (2, gi_ld gx_isR 0 3),
  (3, gi_ld gx_isI 1 4),
  (7, gi_i2l 8),
  (9, gi_goto 15),
  (13, gi_k (.int (1)) 14),
  (15, gi_k (.int (0)) 16)]
set_option maxRecDepth 100000 in
set_option maxHeartbeats 4000000 in
theorem gl_tb5_ok (L : Nat) (xs : Nat → Int32) : gx_all (gx_s1 (gl_z5 L xs)) (gl_tb5) :=
  ⟨gq_aload_n gl_e5_0,
   gq_iconst gl_e5_1 (by decide),
   gq_aload_n gl_e5_2,
   gq_iload_n gl_e5_3,
   gs_i2l gl_e5_7,
   gq_goto gl_e5_9 (by decide),
   gq_iconst gl_e5_13 (by decide),
   gq_iconst gl_e5_15 (by decide), trivial⟩
theorem gl_e5_12 : decode method_7_code 12 = .ok (.astore_n 3, 1) := by decide +kernel
theorem gl_e6_0 : decode method_8_code 0 = .ok (.aload_n 3, 1) := by decide +kernel
theorem gl_e6_1 : decode method_8_code 1 = .ok (.iconst (0), 1) := by decide +kernel
theorem gl_e6_2 : decode method_8_code 2 = .ok (.aload_n 0, 1) := by decide +kernel
theorem gl_e6_3 : decode method_8_code 3 = .ok (.iload_n 1, 1) := by decide +kernel
theorem gl_e6_4 : decode method_8_code 4 = .ok (.iload_n 2, 1) := by decide +kernel
theorem gl_e6_5 : decode method_8_code 5 = .ok (.invokevirtual 31, 3) := by decide +kernel
theorem gl_e6_8 : decode method_8_code 8 = .ok (.i2l, 1) := by decide +kernel
theorem gl_e6_9 : decode method_8_code 9 = .ok (.lastore, 1) := by decide +kernel
theorem gl_e6_10 : decode method_8_code 10 = .ok (.goto (11), 3) := by decide +kernel
theorem gl_e6_15 : decode method_8_code 15 = .ok (.iconst (1), 1) := by decide +kernel
theorem gl_e6_16 : decode method_8_code 16 = .ok (.ireturn, 1) := by decide +kernel
theorem gl_e6_19 : decode method_8_code 19 = .ok (.iconst (2), 1) := by decide +kernel
theorem gl_e6_20 : decode method_8_code 20 = .ok (.ireturn, 1) := by decide +kernel
theorem gl_e6_21 : decode method_8_code 21 = .ok (.iconst (0), 1) := by decide +kernel
theorem gl_e6_22 : decode method_8_code 22 = .ok (.ireturn, 1) := by decide +kernel
def gl_tb6 : List (Nat × gx_T) := [(0, gi_ld gx_isR 3 1),
  (1, gi_k (.int (0)) 2),
  (2, gi_ld gx_isR 0 3),
  (3, gi_ld gx_isI 1 4),
  (4, gi_ld gx_isI 2 5),
  (8, gi_i2l 9),
  (10, gi_goto 21),
  (15, gi_k (.int (1)) 16),
  (19, gi_k (.int (2)) 20),
  (21, gi_k (.int (0)) 22)]
set_option maxRecDepth 100000 in
set_option maxHeartbeats 4000000 in
theorem gl_tb6_ok (L : Nat) (xs : Nat → Int32) : gx_all (gx_s1 (gl_z6 L xs)) (gl_tb6) :=
  ⟨gq_aload_n gl_e6_0,
   gq_iconst gl_e6_1 (by decide),
   gq_aload_n gl_e6_2,
   gq_iload_n gl_e6_3,
   gq_iload_n gl_e6_4,
   gs_i2l gl_e6_8,
   gq_goto gl_e6_10 (by decide),
   gq_iconst gl_e6_15 (by decide),
   gq_iconst gl_e6_19 (by decide),
   gq_iconst gl_e6_21 (by decide), trivial⟩
theorem gl_e6_13 : decode method_8_code 13 = .ok (.astore 4, 2) := by decide +kernel
theorem gl_e6_17 : decode method_8_code 17 = .ok (.astore 4, 2) := by decide +kernel
theorem gl_e7_0 : decode method_9_code 0 = .ok (.aload_n 2, 1) := by decide +kernel
theorem gl_e7_1 : decode method_9_code 1 = .ok (.iconst (0), 1) := by decide +kernel
theorem gl_e7_2 : decode method_9_code 2 = .ok (.aload_n 0, 1) := by decide +kernel
theorem gl_e7_3 : decode method_9_code 3 = .ok (.iload_n 1, 1) := by decide +kernel
theorem gl_e7_4 : decode method_9_code 4 = .ok (.invokevirtual 37, 3) := by decide +kernel
theorem gl_e7_7 : decode method_9_code 7 = .ok (.i2l, 1) := by decide +kernel
theorem gl_e7_8 : decode method_9_code 8 = .ok (.lastore, 1) := by decide +kernel
theorem gl_e7_9 : decode method_9_code 9 = .ok (.goto (9), 3) := by decide +kernel
theorem gl_e7_13 : decode method_9_code 13 = .ok (.iconst (1), 1) := by decide +kernel
theorem gl_e7_14 : decode method_9_code 14 = .ok (.ireturn, 1) := by decide +kernel
theorem gl_e7_16 : decode method_9_code 16 = .ok (.iconst (2), 1) := by decide +kernel
theorem gl_e7_17 : decode method_9_code 17 = .ok (.ireturn, 1) := by decide +kernel
theorem gl_e7_18 : decode method_9_code 18 = .ok (.iconst (0), 1) := by decide +kernel
theorem gl_e7_19 : decode method_9_code 19 = .ok (.ireturn, 1) := by decide +kernel
def gl_tb7 : List (Nat × gx_T) := [(0, gi_ld gx_isR 2 1),
  (1, gi_k (.int (0)) 2),
  (2, gi_ld gx_isR 0 3),
  (3, gi_ld gx_isI 1 4),
  (7, gi_i2l 8),
  (9, gi_goto 18),
  (13, gi_k (.int (1)) 14),
  (16, gi_k (.int (2)) 17),
  (18, gi_k (.int (0)) 19)]
set_option maxRecDepth 100000 in
set_option maxHeartbeats 4000000 in
theorem gl_tb7_ok (L : Nat) (xs : Nat → Int32) : gx_all (gx_s1 (gl_z7 L xs)) (gl_tb7) :=
  ⟨gq_aload_n gl_e7_0,
   gq_iconst gl_e7_1 (by decide),
   gq_aload_n gl_e7_2,
   gq_iload_n gl_e7_3,
   gs_i2l gl_e7_7,
   gq_goto gl_e7_9 (by decide),
   gq_iconst gl_e7_13 (by decide),
   gq_iconst gl_e7_16 (by decide),
   gq_iconst gl_e7_18 (by decide), trivial⟩
theorem gl_e7_12 : decode method_9_code 12 = .ok (.astore_n 3, 1) := by decide +kernel
theorem gl_e7_15 : decode method_9_code 15 = .ok (.astore_n 3, 1) := by decide +kernel
theorem gl_e8_0 : decode method_10_code 0 = .ok (.aload_n 3, 1) := by decide +kernel
theorem gl_e8_1 : decode method_10_code 1 = .ok (.iconst (0), 1) := by decide +kernel
theorem gl_e8_2 : decode method_10_code 2 = .ok (.aload_n 0, 1) := by decide +kernel
theorem gl_e8_3 : decode method_10_code 3 = .ok (.iload_n 1, 1) := by decide +kernel
theorem gl_e8_4 : decode method_10_code 4 = .ok (.iload_n 2, 1) := by decide +kernel
theorem gl_e8_5 : decode method_10_code 5 = .ok (.invokevirtual 40, 3) := by decide +kernel
theorem gl_e8_8 : decode method_10_code 8 = .ok (.i2l, 1) := by decide +kernel
theorem gl_e8_9 : decode method_10_code 9 = .ok (.lastore, 1) := by decide +kernel
theorem gl_e8_10 : decode method_10_code 10 = .ok (.goto (7), 3) := by decide +kernel
theorem gl_e8_15 : decode method_10_code 15 = .ok (.iconst (1), 1) := by decide +kernel
theorem gl_e8_16 : decode method_10_code 16 = .ok (.ireturn, 1) := by decide +kernel
theorem gl_e8_17 : decode method_10_code 17 = .ok (.iconst (0), 1) := by decide +kernel
theorem gl_e8_18 : decode method_10_code 18 = .ok (.ireturn, 1) := by decide +kernel
def gl_tb8 : List (Nat × gx_T) := [(0, gi_ld gx_isR 3 1),
  (1, gi_k (.int (0)) 2),
  (2, gi_ld gx_isR 0 3),
  (3, gi_ld gx_isI 1 4),
  (4, gi_ld gx_isI 2 5),
  (8, gi_i2l 9),
  (10, gi_goto 17),
  (15, gi_k (.int (1)) 16),
  (17, gi_k (.int (0)) 18)]
set_option maxRecDepth 100000 in
set_option maxHeartbeats 4000000 in
theorem gl_tb8_ok (L : Nat) (xs : Nat → Int32) : gx_all (gx_s1 (gl_z8 L xs)) (gl_tb8) :=
  ⟨gq_aload_n gl_e8_0,
   gq_iconst gl_e8_1 (by decide),
   gq_aload_n gl_e8_2,
   gq_iload_n gl_e8_3,
   gq_iload_n gl_e8_4,
   gs_i2l gl_e8_8,
   gq_goto gl_e8_10 (by decide),
   gq_iconst gl_e8_15 (by decide),
   gq_iconst gl_e8_17 (by decide), trivial⟩
theorem gl_e8_13 : decode method_10_code 13 = .ok (.astore 4, 2) := by decide +kernel
theorem gl_e0_0 : decode code 0 = .ok (.new 8, 3) := by decide +kernel
theorem gl_e0_3 : decode code 3 = .ok (.dup, 1) := by decide +kernel
theorem gl_e0_4 : decode code 4 = .ok (.invokespecial 43, 3) := by decide +kernel
theorem gl_e0_7 : decode code 7 = .ok (.astore_n 1, 1) := by decide +kernel
theorem gl_e0_8 : decode code 8 = .ok (.new 44, 3) := by decide +kernel
theorem gl_e0_11 : decode code 11 = .ok (.dup, 1) := by decide +kernel
theorem gl_e0_12 : decode code 12 = .ok (.invokespecial 46, 3) := by decide +kernel
theorem gl_e0_15 : decode code 15 = .ok (.astore_n 2, 1) := by decide +kernel
theorem gl_e0_16 : decode code 16 = .ok (.iconst (1), 1) := by decide +kernel
theorem gl_e0_17 : decode code 17 = .ok (.newarray .long, 2) := by decide +kernel
theorem gl_e0_19 : decode code 19 = .ok (.astore_n 3, 1) := by decide +kernel
theorem gl_e0_20 : decode code 20 = .ok (.iconst (0), 1) := by decide +kernel
theorem gl_e0_21 : decode code 21 = .ok (.istore 4, 2) := by decide +kernel
theorem gl_e0_23 : decode code 23 = .ok (.iload 4, 2) := by decide +kernel
theorem gl_e0_25 : decode code 25 = .ok (.aload_n 0, 1) := by decide +kernel
theorem gl_e0_26 : decode code 26 = .ok (.arraylength, 1) := by decide +kernel
theorem gl_e0_27 : decode code 27 = .ok (.iconst (3), 1) := by decide +kernel
theorem gl_e0_28 : decode code 28 = .ok (.isub, 1) := by decide +kernel
theorem gl_e0_29 : decode code 29 = .ok (.if_icmp .gt (651), 3) := by decide +kernel
theorem gl_e0_32 : decode code 32 = .ok (.aload_n 0, 1) := by decide +kernel
theorem gl_e0_33 : decode code 33 = .ok (.iload 4, 2) := by decide +kernel
theorem gl_e0_35 : decode code 35 = .ok (.iaload, 1) := by decide +kernel
theorem gl_e0_36 : decode code 36 = .ok (.bipush (15), 2) := by decide +kernel
theorem gl_e0_38 : decode code 38 = .ok (.iand, 1) := by decide +kernel
theorem gl_e0_39 : decode code 39 = .ok (.tableswitch (635) 0 12 #[(65), (128), (172), (235), (272), (335), (348), (404), (472), (528), (541), (609), (622)], 65) := by decide +kernel
theorem gl_e0_674 : decode code 674 = .ok (.iinc 4 (3), 3) := by decide +kernel
theorem gl_e0_677 : decode code 677 = .ok (.goto (-654), 3) := by decide +kernel
theorem gl_e0_680 : decode code 680 = .ok (.iconst (1), 1) := by decide +kernel
theorem gl_e0_681 : decode code 681 = .ok (.ireturn, 1) := by decide +kernel
def gl_th (L : Nat) (xs : Nat → Int32) : List (Nat × gx_T) := [(0, gi_new 0 8 [.null, .null, .null, .null, .null, .int 0, .int 0, .int 0] 3),
  (3, gi_dup 4),
  (7, gi_st gx_isR 1 8),
  (8, gi_new 4 35 [.int 0, .null, .int 0, .null, .int 0, .null, .null, .null, .null, .null, .null, .null, .null, .null, .null, .null, .null, .int 0, .int 0, .int 0, .null, .null, .null, .null, .null, .null, .null, .null, .int 0, .null, .int 0, .null, .null, .int 0, .int 0] 11),
  (11, gi_dup 12),
  (15, gi_st gx_isR 2 16),
  (16, gi_k (.int (1)) 17),
  (17, gi_newl 3 19),
  (19, gi_st gx_isR 3 20),
  (20, gi_k (.int (0)) 21),
  (21, gi_st gx_isI 4 23),
  (23, gi_ld gx_isI 4 25),
  (25, gi_ld gx_isR 0 26),
  (26, gi_sln L 27),
  (27, gi_k (.int (3)) 28),
  (28, gi_bin (fun a b => a - b) 29),
  (29, gi_cmp (fun x y => y < x) (fun x y => ¬ y < x) 680 32),
  (32, gi_ld gx_isR 0 33),
  (33, gi_ld gx_isI 4 35),
  (35, gi_sld L xs 36),
  (36, gi_k (.int (15)) 38),
  (38, gi_bin (fun a b => a &&& b) 39),
  (39, gi_tsw [104, 167, 211, 274, 311, 374, 387, 443, 511, 567, 580, 648, 661] 674),
  (674, gi_inc 4 (3) 677),
  (677, gi_goto 23),
  (680, gi_k (.int (1)) 681)]
set_option maxRecDepth 100000 in
set_option maxHeartbeats 4000000 in
theorem gl_th_ok (L : Nat) (xs : Nat → Int32) : gx_all (gx_s1 (gl_zz L xs)) (gl_th L xs) :=
  ⟨gs_new (Cn := gm_R0) (T := gm_T0) rfl gc_in0 gm_t0 gm_ty0 (by decide +kernel) (gc_dflt (by decide)) (gm_f _ gl_w30) (gm_f _ gl_w31) (gm_f _ gl_w1) gl_e0_0,
   gs_dup gl_e0_3,
   gq_astore_n gl_e0_7,
   gs_new (Cn := gm_R4) (T := gm_T4) rfl gm_in4c gm_t4 gm_ty4 (by decide +kernel) (gc_dflt (by decide)) (gm_f _ gl_w855) (gm_f _ gl_w856) (gm_f _ gl_w5) gl_e0_8,
   gs_dup gl_e0_11,
   gq_astore_n gl_e0_15,
   gq_iconst gl_e0_16 (by decide),
   gs_newl rfl (gm_f _ gl_w114) gl_e0_17,
   gq_astore_n gl_e0_19,
   gq_iconst gl_e0_20 (by decide),
   gq_istore gl_e0_21,
   gq_iload gl_e0_23,
   gq_aload_n gl_e0_25,
   gs_sln gl_GX gl_e0_26,
   gq_iconst gl_e0_27 (by decide),
   gq_isub gl_e0_28,
   gq_icmp_gt gl_e0_29 (by decide),
   gq_aload_n gl_e0_32,
   gq_iload gl_e0_33,
   gs_sld gl_GX gl_e0_35,
   gq_bipush gl_e0_36 (by decide),
   gq_iand gl_e0_38,
   gs_tsw (by decide) (by decide) (by decide) gl_e0_39,
   gs_inc gl_e0_674,
   gq_goto gl_e0_677 (by decide),
   gq_iconst gl_e0_680 (by decide), trivial⟩
theorem gl_e0_104 : decode code 104 = .ok (.aload_n 1, 1) := by decide +kernel
theorem gl_e0_105 : decode code 105 = .ok (.aload_n 0, 1) := by decide +kernel
theorem gl_e0_106 : decode code 106 = .ok (.iload 4, 2) := by decide +kernel
theorem gl_e0_108 : decode code 108 = .ok (.iconst (1), 1) := by decide +kernel
theorem gl_e0_109 : decode code 109 = .ok (.iadd, 1) := by decide +kernel
theorem gl_e0_110 : decode code 110 = .ok (.iaload, 1) := by decide +kernel
theorem gl_e0_111 : decode code 111 = .ok (.aload_n 3, 1) := by decide +kernel
theorem gl_e0_112 : decode code 112 = .ok (.invokestatic 47, 3) := by decide +kernel
theorem gl_e0_115 : decode code 115 = .ok (.istore 5, 2) := by decide +kernel
theorem gl_e0_117 : decode code 117 = .ok (.aload_n 2, 1) := by decide +kernel
theorem gl_e0_118 : decode code 118 = .ok (.aload_n 0, 1) := by decide +kernel
theorem gl_e0_119 : decode code 119 = .ok (.iload 4, 2) := by decide +kernel
theorem gl_e0_121 : decode code 121 = .ok (.iconst (1), 1) := by decide +kernel
theorem gl_e0_122 : decode code 122 = .ok (.iadd, 1) := by decide +kernel
theorem gl_e0_123 : decode code 123 = .ok (.iaload, 1) := by decide +kernel
theorem gl_e0_124 : decode code 124 = .ok (.invokevirtual 52, 3) := by decide +kernel
theorem gl_e0_127 : decode code 127 = .ok (.istore 6, 2) := by decide +kernel
theorem gl_e0_129 : decode code 129 = .ok (.aload_n 2, 1) := by decide +kernel
theorem gl_e0_130 : decode code 130 = .ok (.invokevirtual 53, 3) := by decide +kernel
theorem gl_e0_133 : decode code 133 = .ok (.iload 5, 2) := by decide +kernel
theorem gl_e0_135 : decode code 135 = .ok (.if_icmp .eq (5), 3) := by decide +kernel
theorem gl_e0_138 : decode code 138 = .ok (.iconst (0), 1) := by decide +kernel
theorem gl_e0_139 : decode code 139 = .ok (.ireturn, 1) := by decide +kernel
theorem gl_e0_140 : decode code 140 = .ok (.iload 5, 2) := by decide +kernel
theorem gl_e0_142 : decode code 142 = .ok (.ifCond .ne (22), 3) := by decide +kernel
theorem gl_e0_145 : decode code 145 = .ok (.aload_n 3, 1) := by decide +kernel
theorem gl_e0_146 : decode code 146 = .ok (.iconst (0), 1) := by decide +kernel
theorem gl_e0_147 : decode code 147 = .ok (.laload, 1) := by decide +kernel
theorem gl_e0_148 : decode code 148 = .ok (.iload 6, 2) := by decide +kernel
theorem gl_e0_150 : decode code 150 = .ok (.ifCond .eq (7), 3) := by decide +kernel
theorem gl_e0_153 : decode code 153 = .ok (.lconst 1, 1) := by decide +kernel
theorem gl_e0_154 : decode code 154 = .ok (.goto (4), 3) := by decide +kernel
theorem gl_e0_157 : decode code 157 = .ok (.lconst 0, 1) := by decide +kernel
theorem gl_e0_158 : decode code 158 = .ok (.lcmp, 1) := by decide +kernel
theorem gl_e0_159 : decode code 159 = .ok (.ifCond .eq (5), 3) := by decide +kernel
theorem gl_e0_162 : decode code 162 = .ok (.iconst (0), 1) := by decide +kernel
theorem gl_e0_163 : decode code 163 = .ok (.ireturn, 1) := by decide +kernel
theorem gl_e0_164 : decode code 164 = .ok (.goto (510), 3) := by decide +kernel
def gl_tc0 (L : Nat) (xs : Nat → Int32) : List (Nat × gx_T) := [(104, gi_ld gx_isR 1 105),
  (105, gi_ld gx_isR 0 106),
  (106, gi_ld gx_isI 4 108),
  (108, gi_k (.int (1)) 109),
  (109, gi_bin (fun a b => a + b) 110),
  (110, gi_sld L xs 111),
  (111, gi_ld gx_isR 3 112),
  (115, gi_st gx_isI 5 117),
  (117, gi_ld gx_isR 2 118),
  (118, gi_ld gx_isR 0 119),
  (119, gi_ld gx_isI 4 121),
  (121, gi_k (.int (1)) 122),
  (122, gi_bin (fun a b => a + b) 123),
  (123, gi_sld L xs 124),
  (127, gi_st gx_isI 6 129),
  (129, gi_ld gx_isR 2 130),
  (133, gi_ld gx_isI 5 135),
  (135, gi_cmp (fun x y => x = y) (fun x y => ¬ x = y) 140 138),
  (138, gi_k (.int (0)) 139),
  (140, gi_ld gx_isI 5 142),
  (142, gi_if (fun x => ¬ x = 0) (fun x => x = 0) 164 145),
  (145, gi_ld gx_isR 3 146),
  (146, gi_k (.int (0)) 147),
  (148, gi_ld gx_isI 6 150),
  (150, gi_if (fun x => x = 0) (fun x => ¬ x = 0) 157 153),
  (153, gi_k (.long (1)) 154),
  (154, gi_goto 158),
  (157, gi_k (.long (0)) 158),
  (158, gi_lcmp 159),
  (159, gi_if (fun x => x = 0) (fun x => ¬ x = 0) 164 162),
  (162, gi_k (.int (0)) 163),
  (164, gi_goto 674)]
set_option maxRecDepth 100000 in
set_option maxHeartbeats 4000000 in
theorem gl_tc0_ok (L : Nat) (xs : Nat → Int32) : gx_all (gx_s1 (gl_zz L xs)) (gl_tc0 L xs) :=
  ⟨gq_aload_n gl_e0_104,
   gq_aload_n gl_e0_105,
   gq_iload gl_e0_106,
   gq_iconst gl_e0_108 (by decide),
   gq_iadd gl_e0_109,
   gs_sld gl_GX gl_e0_110,
   gq_aload_n gl_e0_111,
   gq_istore gl_e0_115,
   gq_aload_n gl_e0_117,
   gq_aload_n gl_e0_118,
   gq_iload gl_e0_119,
   gq_iconst gl_e0_121 (by decide),
   gq_iadd gl_e0_122,
   gs_sld gl_GX gl_e0_123,
   gq_istore gl_e0_127,
   gq_aload_n gl_e0_129,
   gq_iload gl_e0_133,
   gq_icmp_eq gl_e0_135 (by decide),
   gq_iconst gl_e0_138 (by decide),
   gq_iload gl_e0_140,
   gq_if_ne gl_e0_142 (by decide),
   gq_aload_n gl_e0_145,
   gq_iconst gl_e0_146 (by decide),
   gq_iload gl_e0_148,
   gq_if_eq gl_e0_150 (by decide),
   gq_lconst gl_e0_153 (by decide),
   gq_goto gl_e0_154 (by decide),
   gq_lconst gl_e0_157 (by decide),
   gs_lcmp gl_e0_158,
   gq_if_eq gl_e0_159 (by decide),
   gq_iconst gl_e0_162 (by decide),
   gq_goto gl_e0_164 (by decide), trivial⟩
theorem gl_e0_167 : decode code 167 = .ok (.aload_n 1, 1) := by decide +kernel
theorem gl_e0_168 : decode code 168 = .ok (.aload_n 3, 1) := by decide +kernel
theorem gl_e0_169 : decode code 169 = .ok (.invokestatic 56, 3) := by decide +kernel
theorem gl_e0_172 : decode code 172 = .ok (.istore 5, 2) := by decide +kernel
theorem gl_e0_174 : decode code 174 = .ok (.aload_n 2, 1) := by decide +kernel
theorem gl_e0_175 : decode code 175 = .ok (.invokevirtual 59, 3) := by decide +kernel
theorem gl_e0_178 : decode code 178 = .ok (.istore 6, 2) := by decide +kernel
theorem gl_e0_180 : decode code 180 = .ok (.aload_n 2, 1) := by decide +kernel
theorem gl_e0_181 : decode code 181 = .ok (.invokevirtual 53, 3) := by decide +kernel
theorem gl_e0_184 : decode code 184 = .ok (.iload 5, 2) := by decide +kernel
theorem gl_e0_186 : decode code 186 = .ok (.if_icmp .eq (5), 3) := by decide +kernel
theorem gl_e0_189 : decode code 189 = .ok (.iconst (0), 1) := by decide +kernel
theorem gl_e0_190 : decode code 190 = .ok (.ireturn, 1) := by decide +kernel
theorem gl_e0_191 : decode code 191 = .ok (.iload 5, 2) := by decide +kernel
theorem gl_e0_193 : decode code 193 = .ok (.ifCond .ne (15), 3) := by decide +kernel
theorem gl_e0_196 : decode code 196 = .ok (.aload_n 3, 1) := by decide +kernel
theorem gl_e0_197 : decode code 197 = .ok (.iconst (0), 1) := by decide +kernel
theorem gl_e0_198 : decode code 198 = .ok (.laload, 1) := by decide +kernel
theorem gl_e0_199 : decode code 199 = .ok (.iload 6, 2) := by decide +kernel
theorem gl_e0_201 : decode code 201 = .ok (.i2l, 1) := by decide +kernel
theorem gl_e0_202 : decode code 202 = .ok (.lcmp, 1) := by decide +kernel
theorem gl_e0_203 : decode code 203 = .ok (.ifCond .eq (5), 3) := by decide +kernel
theorem gl_e0_206 : decode code 206 = .ok (.iconst (0), 1) := by decide +kernel
theorem gl_e0_207 : decode code 207 = .ok (.ireturn, 1) := by decide +kernel
theorem gl_e0_208 : decode code 208 = .ok (.goto (466), 3) := by decide +kernel
def gl_tc1 : List (Nat × gx_T) := [(167, gi_ld gx_isR 1 168),
  (168, gi_ld gx_isR 3 169),
  (172, gi_st gx_isI 5 174),
  (174, gi_ld gx_isR 2 175),
  (178, gi_st gx_isI 6 180),
  (180, gi_ld gx_isR 2 181),
  (184, gi_ld gx_isI 5 186),
  (186, gi_cmp (fun x y => x = y) (fun x y => ¬ x = y) 191 189),
  (189, gi_k (.int (0)) 190),
  (191, gi_ld gx_isI 5 193),
  (193, gi_if (fun x => ¬ x = 0) (fun x => x = 0) 208 196),
  (196, gi_ld gx_isR 3 197),
  (197, gi_k (.int (0)) 198),
  (199, gi_ld gx_isI 6 201),
  (201, gi_i2l 202),
  (202, gi_lcmp 203),
  (203, gi_if (fun x => x = 0) (fun x => ¬ x = 0) 208 206),
  (206, gi_k (.int (0)) 207),
  (208, gi_goto 674)]
set_option maxRecDepth 100000 in
set_option maxHeartbeats 4000000 in
theorem gl_tc1_ok (L : Nat) (xs : Nat → Int32) : gx_all (gx_s1 (gl_zz L xs)) (gl_tc1) :=
  ⟨gq_aload_n gl_e0_167,
   gq_aload_n gl_e0_168,
   gq_istore gl_e0_172,
   gq_aload_n gl_e0_174,
   gq_istore gl_e0_178,
   gq_aload_n gl_e0_180,
   gq_iload gl_e0_184,
   gq_icmp_eq gl_e0_186 (by decide),
   gq_iconst gl_e0_189 (by decide),
   gq_iload gl_e0_191,
   gq_if_ne gl_e0_193 (by decide),
   gq_aload_n gl_e0_196,
   gq_iconst gl_e0_197 (by decide),
   gq_iload gl_e0_199,
   gs_i2l gl_e0_201,
   gs_lcmp gl_e0_202,
   gq_if_eq gl_e0_203 (by decide),
   gq_iconst gl_e0_206 (by decide),
   gq_goto gl_e0_208 (by decide), trivial⟩
theorem gl_e0_211 : decode code 211 = .ok (.aload_n 1, 1) := by decide +kernel
theorem gl_e0_212 : decode code 212 = .ok (.aload_n 0, 1) := by decide +kernel
theorem gl_e0_213 : decode code 213 = .ok (.iload 4, 2) := by decide +kernel
theorem gl_e0_215 : decode code 215 = .ok (.iconst (1), 1) := by decide +kernel
theorem gl_e0_216 : decode code 216 = .ok (.iadd, 1) := by decide +kernel
theorem gl_e0_217 : decode code 217 = .ok (.iaload, 1) := by decide +kernel
theorem gl_e0_218 : decode code 218 = .ok (.aload_n 3, 1) := by decide +kernel
theorem gl_e0_219 : decode code 219 = .ok (.invokestatic 60, 3) := by decide +kernel
theorem gl_e0_222 : decode code 222 = .ok (.istore 5, 2) := by decide +kernel
theorem gl_e0_224 : decode code 224 = .ok (.aload_n 2, 1) := by decide +kernel
theorem gl_e0_225 : decode code 225 = .ok (.aload_n 0, 1) := by decide +kernel
theorem gl_e0_226 : decode code 226 = .ok (.iload 4, 2) := by decide +kernel
theorem gl_e0_228 : decode code 228 = .ok (.iconst (1), 1) := by decide +kernel
theorem gl_e0_229 : decode code 229 = .ok (.iadd, 1) := by decide +kernel
theorem gl_e0_230 : decode code 230 = .ok (.iaload, 1) := by decide +kernel
theorem gl_e0_231 : decode code 231 = .ok (.invokevirtual 62, 3) := by decide +kernel
theorem gl_e0_234 : decode code 234 = .ok (.istore 6, 2) := by decide +kernel
theorem gl_e0_236 : decode code 236 = .ok (.aload_n 2, 1) := by decide +kernel
theorem gl_e0_237 : decode code 237 = .ok (.invokevirtual 53, 3) := by decide +kernel
theorem gl_e0_240 : decode code 240 = .ok (.iload 5, 2) := by decide +kernel
theorem gl_e0_242 : decode code 242 = .ok (.if_icmp .eq (5), 3) := by decide +kernel
theorem gl_e0_245 : decode code 245 = .ok (.iconst (0), 1) := by decide +kernel
theorem gl_e0_246 : decode code 246 = .ok (.ireturn, 1) := by decide +kernel
theorem gl_e0_247 : decode code 247 = .ok (.iload 5, 2) := by decide +kernel
theorem gl_e0_249 : decode code 249 = .ok (.ifCond .ne (22), 3) := by decide +kernel
theorem gl_e0_252 : decode code 252 = .ok (.aload_n 3, 1) := by decide +kernel
theorem gl_e0_253 : decode code 253 = .ok (.iconst (0), 1) := by decide +kernel
theorem gl_e0_254 : decode code 254 = .ok (.laload, 1) := by decide +kernel
theorem gl_e0_255 : decode code 255 = .ok (.iload 6, 2) := by decide +kernel
theorem gl_e0_257 : decode code 257 = .ok (.ifCond .eq (7), 3) := by decide +kernel
theorem gl_e0_260 : decode code 260 = .ok (.lconst 1, 1) := by decide +kernel
theorem gl_e0_261 : decode code 261 = .ok (.goto (4), 3) := by decide +kernel
theorem gl_e0_264 : decode code 264 = .ok (.lconst 0, 1) := by decide +kernel
theorem gl_e0_265 : decode code 265 = .ok (.lcmp, 1) := by decide +kernel
theorem gl_e0_266 : decode code 266 = .ok (.ifCond .eq (5), 3) := by decide +kernel
theorem gl_e0_269 : decode code 269 = .ok (.iconst (0), 1) := by decide +kernel
theorem gl_e0_270 : decode code 270 = .ok (.ireturn, 1) := by decide +kernel
theorem gl_e0_271 : decode code 271 = .ok (.goto (403), 3) := by decide +kernel
def gl_tc2 (L : Nat) (xs : Nat → Int32) : List (Nat × gx_T) := [(211, gi_ld gx_isR 1 212),
  (212, gi_ld gx_isR 0 213),
  (213, gi_ld gx_isI 4 215),
  (215, gi_k (.int (1)) 216),
  (216, gi_bin (fun a b => a + b) 217),
  (217, gi_sld L xs 218),
  (218, gi_ld gx_isR 3 219),
  (222, gi_st gx_isI 5 224),
  (224, gi_ld gx_isR 2 225),
  (225, gi_ld gx_isR 0 226),
  (226, gi_ld gx_isI 4 228),
  (228, gi_k (.int (1)) 229),
  (229, gi_bin (fun a b => a + b) 230),
  (230, gi_sld L xs 231),
  (234, gi_st gx_isI 6 236),
  (236, gi_ld gx_isR 2 237),
  (240, gi_ld gx_isI 5 242),
  (242, gi_cmp (fun x y => x = y) (fun x y => ¬ x = y) 247 245),
  (245, gi_k (.int (0)) 246),
  (247, gi_ld gx_isI 5 249),
  (249, gi_if (fun x => ¬ x = 0) (fun x => x = 0) 271 252),
  (252, gi_ld gx_isR 3 253),
  (253, gi_k (.int (0)) 254),
  (255, gi_ld gx_isI 6 257),
  (257, gi_if (fun x => x = 0) (fun x => ¬ x = 0) 264 260),
  (260, gi_k (.long (1)) 261),
  (261, gi_goto 265),
  (264, gi_k (.long (0)) 265),
  (265, gi_lcmp 266),
  (266, gi_if (fun x => x = 0) (fun x => ¬ x = 0) 271 269),
  (269, gi_k (.int (0)) 270),
  (271, gi_goto 674)]
set_option maxRecDepth 100000 in
set_option maxHeartbeats 4000000 in
theorem gl_tc2_ok (L : Nat) (xs : Nat → Int32) : gx_all (gx_s1 (gl_zz L xs)) (gl_tc2 L xs) :=
  ⟨gq_aload_n gl_e0_211,
   gq_aload_n gl_e0_212,
   gq_iload gl_e0_213,
   gq_iconst gl_e0_215 (by decide),
   gq_iadd gl_e0_216,
   gs_sld gl_GX gl_e0_217,
   gq_aload_n gl_e0_218,
   gq_istore gl_e0_222,
   gq_aload_n gl_e0_224,
   gq_aload_n gl_e0_225,
   gq_iload gl_e0_226,
   gq_iconst gl_e0_228 (by decide),
   gq_iadd gl_e0_229,
   gs_sld gl_GX gl_e0_230,
   gq_istore gl_e0_234,
   gq_aload_n gl_e0_236,
   gq_iload gl_e0_240,
   gq_icmp_eq gl_e0_242 (by decide),
   gq_iconst gl_e0_245 (by decide),
   gq_iload gl_e0_247,
   gq_if_ne gl_e0_249 (by decide),
   gq_aload_n gl_e0_252,
   gq_iconst gl_e0_253 (by decide),
   gq_iload gl_e0_255,
   gq_if_eq gl_e0_257 (by decide),
   gq_lconst gl_e0_260 (by decide),
   gq_goto gl_e0_261 (by decide),
   gq_lconst gl_e0_264 (by decide),
   gs_lcmp gl_e0_265,
   gq_if_eq gl_e0_266 (by decide),
   gq_iconst gl_e0_269 (by decide),
   gq_goto gl_e0_271 (by decide), trivial⟩
theorem gl_e0_274 : decode code 274 = .ok (.aload_n 1, 1) := by decide +kernel
theorem gl_e0_275 : decode code 275 = .ok (.aload_n 0, 1) := by decide +kernel
theorem gl_e0_276 : decode code 276 = .ok (.iload 4, 2) := by decide +kernel
theorem gl_e0_278 : decode code 278 = .ok (.iconst (1), 1) := by decide +kernel
theorem gl_e0_279 : decode code 279 = .ok (.iadd, 1) := by decide +kernel
theorem gl_e0_280 : decode code 280 = .ok (.iaload, 1) := by decide +kernel
theorem gl_e0_281 : decode code 281 = .ok (.aload_n 0, 1) := by decide +kernel
theorem gl_e0_282 : decode code 282 = .ok (.iload 4, 2) := by decide +kernel
theorem gl_e0_284 : decode code 284 = .ok (.iconst (2), 1) := by decide +kernel
theorem gl_e0_285 : decode code 285 = .ok (.iadd, 1) := by decide +kernel
theorem gl_e0_286 : decode code 286 = .ok (.iaload, 1) := by decide +kernel
theorem gl_e0_287 : decode code 287 = .ok (.invokevirtual 63, 3) := by decide +kernel
theorem gl_e0_290 : decode code 290 = .ok (.aload_n 2, 1) := by decide +kernel
theorem gl_e0_291 : decode code 291 = .ok (.aload_n 0, 1) := by decide +kernel
theorem gl_e0_292 : decode code 292 = .ok (.iload 4, 2) := by decide +kernel
theorem gl_e0_294 : decode code 294 = .ok (.iconst (1), 1) := by decide +kernel
theorem gl_e0_295 : decode code 295 = .ok (.iadd, 1) := by decide +kernel
theorem gl_e0_296 : decode code 296 = .ok (.iaload, 1) := by decide +kernel
theorem gl_e0_297 : decode code 297 = .ok (.aload_n 0, 1) := by decide +kernel
theorem gl_e0_298 : decode code 298 = .ok (.iload 4, 2) := by decide +kernel
theorem gl_e0_300 : decode code 300 = .ok (.iconst (2), 1) := by decide +kernel
theorem gl_e0_301 : decode code 301 = .ok (.iadd, 1) := by decide +kernel
theorem gl_e0_302 : decode code 302 = .ok (.iaload, 1) := by decide +kernel
theorem gl_e0_303 : decode code 303 = .ok (.invokevirtual 67, 3) := by decide +kernel
theorem gl_e0_306 : decode code 306 = .ok (.if_icmp .eq (368), 3) := by decide +kernel
theorem gl_e0_309 : decode code 309 = .ok (.iconst (0), 1) := by decide +kernel
theorem gl_e0_310 : decode code 310 = .ok (.ireturn, 1) := by decide +kernel
def gl_tc3 (L : Nat) (xs : Nat → Int32) : List (Nat × gx_T) := [(274, gi_ld gx_isR 1 275),
  (275, gi_ld gx_isR 0 276),
  (276, gi_ld gx_isI 4 278),
  (278, gi_k (.int (1)) 279),
  (279, gi_bin (fun a b => a + b) 280),
  (280, gi_sld L xs 281),
  (281, gi_ld gx_isR 0 282),
  (282, gi_ld gx_isI 4 284),
  (284, gi_k (.int (2)) 285),
  (285, gi_bin (fun a b => a + b) 286),
  (286, gi_sld L xs 287),
  (290, gi_ld gx_isR 2 291),
  (291, gi_ld gx_isR 0 292),
  (292, gi_ld gx_isI 4 294),
  (294, gi_k (.int (1)) 295),
  (295, gi_bin (fun a b => a + b) 296),
  (296, gi_sld L xs 297),
  (297, gi_ld gx_isR 0 298),
  (298, gi_ld gx_isI 4 300),
  (300, gi_k (.int (2)) 301),
  (301, gi_bin (fun a b => a + b) 302),
  (302, gi_sld L xs 303),
  (306, gi_cmp (fun x y => x = y) (fun x y => ¬ x = y) 674 309),
  (309, gi_k (.int (0)) 310)]
set_option maxRecDepth 100000 in
set_option maxHeartbeats 4000000 in
theorem gl_tc3_ok (L : Nat) (xs : Nat → Int32) : gx_all (gx_s1 (gl_zz L xs)) (gl_tc3 L xs) :=
  ⟨gq_aload_n gl_e0_274,
   gq_aload_n gl_e0_275,
   gq_iload gl_e0_276,
   gq_iconst gl_e0_278 (by decide),
   gq_iadd gl_e0_279,
   gs_sld gl_GX gl_e0_280,
   gq_aload_n gl_e0_281,
   gq_iload gl_e0_282,
   gq_iconst gl_e0_284 (by decide),
   gq_iadd gl_e0_285,
   gs_sld gl_GX gl_e0_286,
   gq_aload_n gl_e0_290,
   gq_aload_n gl_e0_291,
   gq_iload gl_e0_292,
   gq_iconst gl_e0_294 (by decide),
   gq_iadd gl_e0_295,
   gs_sld gl_GX gl_e0_296,
   gq_aload_n gl_e0_297,
   gq_iload gl_e0_298,
   gq_iconst gl_e0_300 (by decide),
   gq_iadd gl_e0_301,
   gs_sld gl_GX gl_e0_302,
   gq_icmp_eq gl_e0_306 (by decide),
   gq_iconst gl_e0_309 (by decide), trivial⟩
theorem gl_e0_311 : decode code 311 = .ok (.aload_n 1, 1) := by decide +kernel
theorem gl_e0_312 : decode code 312 = .ok (.aload_n 0, 1) := by decide +kernel
theorem gl_e0_313 : decode code 313 = .ok (.iload 4, 2) := by decide +kernel
theorem gl_e0_315 : decode code 315 = .ok (.iconst (1), 1) := by decide +kernel
theorem gl_e0_316 : decode code 316 = .ok (.iadd, 1) := by decide +kernel
theorem gl_e0_317 : decode code 317 = .ok (.iaload, 1) := by decide +kernel
theorem gl_e0_318 : decode code 318 = .ok (.aload_n 3, 1) := by decide +kernel
theorem gl_e0_319 : decode code 319 = .ok (.invokestatic 68, 3) := by decide +kernel
theorem gl_e0_322 : decode code 322 = .ok (.istore 5, 2) := by decide +kernel
theorem gl_e0_324 : decode code 324 = .ok (.aload_n 2, 1) := by decide +kernel
theorem gl_e0_325 : decode code 325 = .ok (.aload_n 0, 1) := by decide +kernel
theorem gl_e0_326 : decode code 326 = .ok (.iload 4, 2) := by decide +kernel
theorem gl_e0_328 : decode code 328 = .ok (.iconst (1), 1) := by decide +kernel
theorem gl_e0_329 : decode code 329 = .ok (.iadd, 1) := by decide +kernel
theorem gl_e0_330 : decode code 330 = .ok (.iaload, 1) := by decide +kernel
theorem gl_e0_331 : decode code 331 = .ok (.invokevirtual 70, 3) := by decide +kernel
theorem gl_e0_334 : decode code 334 = .ok (.istore 6, 2) := by decide +kernel
theorem gl_e0_336 : decode code 336 = .ok (.aload_n 2, 1) := by decide +kernel
theorem gl_e0_337 : decode code 337 = .ok (.invokevirtual 53, 3) := by decide +kernel
theorem gl_e0_340 : decode code 340 = .ok (.iload 5, 2) := by decide +kernel
theorem gl_e0_342 : decode code 342 = .ok (.if_icmp .eq (5), 3) := by decide +kernel
theorem gl_e0_345 : decode code 345 = .ok (.iconst (0), 1) := by decide +kernel
theorem gl_e0_346 : decode code 346 = .ok (.ireturn, 1) := by decide +kernel
theorem gl_e0_347 : decode code 347 = .ok (.iload 5, 2) := by decide +kernel
theorem gl_e0_349 : decode code 349 = .ok (.ifCond .ne (22), 3) := by decide +kernel
theorem gl_e0_352 : decode code 352 = .ok (.aload_n 3, 1) := by decide +kernel
theorem gl_e0_353 : decode code 353 = .ok (.iconst (0), 1) := by decide +kernel
theorem gl_e0_354 : decode code 354 = .ok (.laload, 1) := by decide +kernel
theorem gl_e0_355 : decode code 355 = .ok (.iload 6, 2) := by decide +kernel
theorem gl_e0_357 : decode code 357 = .ok (.ifCond .eq (7), 3) := by decide +kernel
theorem gl_e0_360 : decode code 360 = .ok (.lconst 1, 1) := by decide +kernel
theorem gl_e0_361 : decode code 361 = .ok (.goto (4), 3) := by decide +kernel
theorem gl_e0_364 : decode code 364 = .ok (.lconst 0, 1) := by decide +kernel
theorem gl_e0_365 : decode code 365 = .ok (.lcmp, 1) := by decide +kernel
theorem gl_e0_366 : decode code 366 = .ok (.ifCond .eq (5), 3) := by decide +kernel
theorem gl_e0_369 : decode code 369 = .ok (.iconst (0), 1) := by decide +kernel
theorem gl_e0_370 : decode code 370 = .ok (.ireturn, 1) := by decide +kernel
theorem gl_e0_371 : decode code 371 = .ok (.goto (303), 3) := by decide +kernel
def gl_tc4 (L : Nat) (xs : Nat → Int32) : List (Nat × gx_T) := [(311, gi_ld gx_isR 1 312),
  (312, gi_ld gx_isR 0 313),
  (313, gi_ld gx_isI 4 315),
  (315, gi_k (.int (1)) 316),
  (316, gi_bin (fun a b => a + b) 317),
  (317, gi_sld L xs 318),
  (318, gi_ld gx_isR 3 319),
  (322, gi_st gx_isI 5 324),
  (324, gi_ld gx_isR 2 325),
  (325, gi_ld gx_isR 0 326),
  (326, gi_ld gx_isI 4 328),
  (328, gi_k (.int (1)) 329),
  (329, gi_bin (fun a b => a + b) 330),
  (330, gi_sld L xs 331),
  (334, gi_st gx_isI 6 336),
  (336, gi_ld gx_isR 2 337),
  (340, gi_ld gx_isI 5 342),
  (342, gi_cmp (fun x y => x = y) (fun x y => ¬ x = y) 347 345),
  (345, gi_k (.int (0)) 346),
  (347, gi_ld gx_isI 5 349),
  (349, gi_if (fun x => ¬ x = 0) (fun x => x = 0) 371 352),
  (352, gi_ld gx_isR 3 353),
  (353, gi_k (.int (0)) 354),
  (355, gi_ld gx_isI 6 357),
  (357, gi_if (fun x => x = 0) (fun x => ¬ x = 0) 364 360),
  (360, gi_k (.long (1)) 361),
  (361, gi_goto 365),
  (364, gi_k (.long (0)) 365),
  (365, gi_lcmp 366),
  (366, gi_if (fun x => x = 0) (fun x => ¬ x = 0) 371 369),
  (369, gi_k (.int (0)) 370),
  (371, gi_goto 674)]
set_option maxRecDepth 100000 in
set_option maxHeartbeats 4000000 in
theorem gl_tc4_ok (L : Nat) (xs : Nat → Int32) : gx_all (gx_s1 (gl_zz L xs)) (gl_tc4 L xs) :=
  ⟨gq_aload_n gl_e0_311,
   gq_aload_n gl_e0_312,
   gq_iload gl_e0_313,
   gq_iconst gl_e0_315 (by decide),
   gq_iadd gl_e0_316,
   gs_sld gl_GX gl_e0_317,
   gq_aload_n gl_e0_318,
   gq_istore gl_e0_322,
   gq_aload_n gl_e0_324,
   gq_aload_n gl_e0_325,
   gq_iload gl_e0_326,
   gq_iconst gl_e0_328 (by decide),
   gq_iadd gl_e0_329,
   gs_sld gl_GX gl_e0_330,
   gq_istore gl_e0_334,
   gq_aload_n gl_e0_336,
   gq_iload gl_e0_340,
   gq_icmp_eq gl_e0_342 (by decide),
   gq_iconst gl_e0_345 (by decide),
   gq_iload gl_e0_347,
   gq_if_ne gl_e0_349 (by decide),
   gq_aload_n gl_e0_352,
   gq_iconst gl_e0_353 (by decide),
   gq_iload gl_e0_355,
   gq_if_eq gl_e0_357 (by decide),
   gq_lconst gl_e0_360 (by decide),
   gq_goto gl_e0_361 (by decide),
   gq_lconst gl_e0_364 (by decide),
   gs_lcmp gl_e0_365,
   gq_if_eq gl_e0_366 (by decide),
   gq_iconst gl_e0_369 (by decide),
   gq_goto gl_e0_371 (by decide), trivial⟩
theorem gl_e0_374 : decode code 374 = .ok (.aload_n 1, 1) := by decide +kernel
theorem gl_e0_375 : decode code 375 = .ok (.invokevirtual 71, 3) := by decide +kernel
theorem gl_e0_378 : decode code 378 = .ok (.aload_n 2, 1) := by decide +kernel
theorem gl_e0_379 : decode code 379 = .ok (.invokevirtual 74, 3) := by decide +kernel
theorem gl_e0_382 : decode code 382 = .ok (.if_icmp .eq (292), 3) := by decide +kernel
theorem gl_e0_385 : decode code 385 = .ok (.iconst (0), 1) := by decide +kernel
theorem gl_e0_386 : decode code 386 = .ok (.ireturn, 1) := by decide +kernel
def gl_tc5 : List (Nat × gx_T) := [(374, gi_ld gx_isR 1 375),
  (378, gi_ld gx_isR 2 379),
  (382, gi_cmp (fun x y => x = y) (fun x y => ¬ x = y) 674 385),
  (385, gi_k (.int (0)) 386)]
set_option maxRecDepth 100000 in
set_option maxHeartbeats 4000000 in
theorem gl_tc5_ok (L : Nat) (xs : Nat → Int32) : gx_all (gx_s1 (gl_zz L xs)) (gl_tc5) :=
  ⟨gq_aload_n gl_e0_374,
   gq_aload_n gl_e0_378,
   gq_icmp_eq gl_e0_382 (by decide),
   gq_iconst gl_e0_385 (by decide), trivial⟩
theorem gl_e0_387 : decode code 387 = .ok (.aload_n 1, 1) := by decide +kernel
theorem gl_e0_388 : decode code 388 = .ok (.aload_n 0, 1) := by decide +kernel
theorem gl_e0_389 : decode code 389 = .ok (.iload 4, 2) := by decide +kernel
theorem gl_e0_391 : decode code 391 = .ok (.iconst (1), 1) := by decide +kernel
theorem gl_e0_392 : decode code 392 = .ok (.iadd, 1) := by decide +kernel
theorem gl_e0_393 : decode code 393 = .ok (.iaload, 1) := by decide +kernel
theorem gl_e0_394 : decode code 394 = .ok (.aload_n 3, 1) := by decide +kernel
theorem gl_e0_395 : decode code 395 = .ok (.invokestatic 75, 3) := by decide +kernel
theorem gl_e0_398 : decode code 398 = .ok (.istore 5, 2) := by decide +kernel
theorem gl_e0_400 : decode code 400 = .ok (.aload_n 2, 1) := by decide +kernel
theorem gl_e0_401 : decode code 401 = .ok (.aload_n 0, 1) := by decide +kernel
theorem gl_e0_402 : decode code 402 = .ok (.iload 4, 2) := by decide +kernel
theorem gl_e0_404 : decode code 404 = .ok (.iconst (1), 1) := by decide +kernel
theorem gl_e0_405 : decode code 405 = .ok (.iadd, 1) := by decide +kernel
theorem gl_e0_406 : decode code 406 = .ok (.iaload, 1) := by decide +kernel
theorem gl_e0_407 : decode code 407 = .ok (.invokevirtual 77, 3) := by decide +kernel
theorem gl_e0_410 : decode code 410 = .ok (.istore 6, 2) := by decide +kernel
theorem gl_e0_412 : decode code 412 = .ok (.aload_n 2, 1) := by decide +kernel
theorem gl_e0_413 : decode code 413 = .ok (.invokevirtual 53, 3) := by decide +kernel
theorem gl_e0_416 : decode code 416 = .ok (.iload 5, 2) := by decide +kernel
theorem gl_e0_418 : decode code 418 = .ok (.if_icmp .eq (5), 3) := by decide +kernel
theorem gl_e0_421 : decode code 421 = .ok (.iconst (0), 1) := by decide +kernel
theorem gl_e0_422 : decode code 422 = .ok (.ireturn, 1) := by decide +kernel
theorem gl_e0_423 : decode code 423 = .ok (.iload 5, 2) := by decide +kernel
theorem gl_e0_425 : decode code 425 = .ok (.ifCond .ne (15), 3) := by decide +kernel
theorem gl_e0_428 : decode code 428 = .ok (.aload_n 3, 1) := by decide +kernel
theorem gl_e0_429 : decode code 429 = .ok (.iconst (0), 1) := by decide +kernel
theorem gl_e0_430 : decode code 430 = .ok (.laload, 1) := by decide +kernel
theorem gl_e0_431 : decode code 431 = .ok (.iload 6, 2) := by decide +kernel
theorem gl_e0_433 : decode code 433 = .ok (.i2l, 1) := by decide +kernel
theorem gl_e0_434 : decode code 434 = .ok (.lcmp, 1) := by decide +kernel
theorem gl_e0_435 : decode code 435 = .ok (.ifCond .eq (5), 3) := by decide +kernel
theorem gl_e0_438 : decode code 438 = .ok (.iconst (0), 1) := by decide +kernel
theorem gl_e0_439 : decode code 439 = .ok (.ireturn, 1) := by decide +kernel
theorem gl_e0_440 : decode code 440 = .ok (.goto (234), 3) := by decide +kernel
def gl_tc6 (L : Nat) (xs : Nat → Int32) : List (Nat × gx_T) := [(387, gi_ld gx_isR 1 388),
  (388, gi_ld gx_isR 0 389),
  (389, gi_ld gx_isI 4 391),
  (391, gi_k (.int (1)) 392),
  (392, gi_bin (fun a b => a + b) 393),
  (393, gi_sld L xs 394),
  (394, gi_ld gx_isR 3 395),
  (398, gi_st gx_isI 5 400),
  (400, gi_ld gx_isR 2 401),
  (401, gi_ld gx_isR 0 402),
  (402, gi_ld gx_isI 4 404),
  (404, gi_k (.int (1)) 405),
  (405, gi_bin (fun a b => a + b) 406),
  (406, gi_sld L xs 407),
  (410, gi_st gx_isI 6 412),
  (412, gi_ld gx_isR 2 413),
  (416, gi_ld gx_isI 5 418),
  (418, gi_cmp (fun x y => x = y) (fun x y => ¬ x = y) 423 421),
  (421, gi_k (.int (0)) 422),
  (423, gi_ld gx_isI 5 425),
  (425, gi_if (fun x => ¬ x = 0) (fun x => x = 0) 440 428),
  (428, gi_ld gx_isR 3 429),
  (429, gi_k (.int (0)) 430),
  (431, gi_ld gx_isI 6 433),
  (433, gi_i2l 434),
  (434, gi_lcmp 435),
  (435, gi_if (fun x => x = 0) (fun x => ¬ x = 0) 440 438),
  (438, gi_k (.int (0)) 439),
  (440, gi_goto 674)]
set_option maxRecDepth 100000 in
set_option maxHeartbeats 4000000 in
theorem gl_tc6_ok (L : Nat) (xs : Nat → Int32) : gx_all (gx_s1 (gl_zz L xs)) (gl_tc6 L xs) :=
  ⟨gq_aload_n gl_e0_387,
   gq_aload_n gl_e0_388,
   gq_iload gl_e0_389,
   gq_iconst gl_e0_391 (by decide),
   gq_iadd gl_e0_392,
   gs_sld gl_GX gl_e0_393,
   gq_aload_n gl_e0_394,
   gq_istore gl_e0_398,
   gq_aload_n gl_e0_400,
   gq_aload_n gl_e0_401,
   gq_iload gl_e0_402,
   gq_iconst gl_e0_404 (by decide),
   gq_iadd gl_e0_405,
   gs_sld gl_GX gl_e0_406,
   gq_istore gl_e0_410,
   gq_aload_n gl_e0_412,
   gq_iload gl_e0_416,
   gq_icmp_eq gl_e0_418 (by decide),
   gq_iconst gl_e0_421 (by decide),
   gq_iload gl_e0_423,
   gq_if_ne gl_e0_425 (by decide),
   gq_aload_n gl_e0_428,
   gq_iconst gl_e0_429 (by decide),
   gq_iload gl_e0_431,
   gs_i2l gl_e0_433,
   gs_lcmp gl_e0_434,
   gq_if_eq gl_e0_435 (by decide),
   gq_iconst gl_e0_438 (by decide),
   gq_goto gl_e0_440 (by decide), trivial⟩
theorem gl_e0_443 : decode code 443 = .ok (.aload_n 1, 1) := by decide +kernel
theorem gl_e0_444 : decode code 444 = .ok (.aload_n 0, 1) := by decide +kernel
theorem gl_e0_445 : decode code 445 = .ok (.iload 4, 2) := by decide +kernel
theorem gl_e0_447 : decode code 447 = .ok (.iconst (1), 1) := by decide +kernel
theorem gl_e0_448 : decode code 448 = .ok (.iadd, 1) := by decide +kernel
theorem gl_e0_449 : decode code 449 = .ok (.iaload, 1) := by decide +kernel
theorem gl_e0_450 : decode code 450 = .ok (.aload_n 0, 1) := by decide +kernel
theorem gl_e0_451 : decode code 451 = .ok (.iload 4, 2) := by decide +kernel
theorem gl_e0_453 : decode code 453 = .ok (.iconst (2), 1) := by decide +kernel
theorem gl_e0_454 : decode code 454 = .ok (.iadd, 1) := by decide +kernel
theorem gl_e0_455 : decode code 455 = .ok (.iaload, 1) := by decide +kernel
theorem gl_e0_456 : decode code 456 = .ok (.aload_n 3, 1) := by decide +kernel
theorem gl_e0_457 : decode code 457 = .ok (.invokestatic 78, 3) := by decide +kernel
theorem gl_e0_460 : decode code 460 = .ok (.istore 5, 2) := by decide +kernel
theorem gl_e0_462 : decode code 462 = .ok (.aload_n 2, 1) := by decide +kernel
theorem gl_e0_463 : decode code 463 = .ok (.aload_n 0, 1) := by decide +kernel
theorem gl_e0_464 : decode code 464 = .ok (.iload 4, 2) := by decide +kernel
theorem gl_e0_466 : decode code 466 = .ok (.iconst (1), 1) := by decide +kernel
theorem gl_e0_467 : decode code 467 = .ok (.iadd, 1) := by decide +kernel
theorem gl_e0_468 : decode code 468 = .ok (.iaload, 1) := by decide +kernel
theorem gl_e0_469 : decode code 469 = .ok (.aload_n 0, 1) := by decide +kernel
theorem gl_e0_470 : decode code 470 = .ok (.iload 4, 2) := by decide +kernel
theorem gl_e0_472 : decode code 472 = .ok (.iconst (2), 1) := by decide +kernel
theorem gl_e0_473 : decode code 473 = .ok (.iadd, 1) := by decide +kernel
theorem gl_e0_474 : decode code 474 = .ok (.iaload, 1) := by decide +kernel
theorem gl_e0_475 : decode code 475 = .ok (.invokevirtual 81, 3) := by decide +kernel
theorem gl_e0_478 : decode code 478 = .ok (.istore 6, 2) := by decide +kernel
theorem gl_e0_480 : decode code 480 = .ok (.aload_n 2, 1) := by decide +kernel
theorem gl_e0_481 : decode code 481 = .ok (.invokevirtual 53, 3) := by decide +kernel
theorem gl_e0_484 : decode code 484 = .ok (.iload 5, 2) := by decide +kernel
theorem gl_e0_486 : decode code 486 = .ok (.if_icmp .eq (5), 3) := by decide +kernel
theorem gl_e0_489 : decode code 489 = .ok (.iconst (0), 1) := by decide +kernel
theorem gl_e0_490 : decode code 490 = .ok (.ireturn, 1) := by decide +kernel
theorem gl_e0_491 : decode code 491 = .ok (.iload 5, 2) := by decide +kernel
theorem gl_e0_493 : decode code 493 = .ok (.ifCond .ne (15), 3) := by decide +kernel
theorem gl_e0_496 : decode code 496 = .ok (.aload_n 3, 1) := by decide +kernel
theorem gl_e0_497 : decode code 497 = .ok (.iconst (0), 1) := by decide +kernel
theorem gl_e0_498 : decode code 498 = .ok (.laload, 1) := by decide +kernel
theorem gl_e0_499 : decode code 499 = .ok (.iload 6, 2) := by decide +kernel
theorem gl_e0_501 : decode code 501 = .ok (.i2l, 1) := by decide +kernel
theorem gl_e0_502 : decode code 502 = .ok (.lcmp, 1) := by decide +kernel
theorem gl_e0_503 : decode code 503 = .ok (.ifCond .eq (5), 3) := by decide +kernel
theorem gl_e0_506 : decode code 506 = .ok (.iconst (0), 1) := by decide +kernel
theorem gl_e0_507 : decode code 507 = .ok (.ireturn, 1) := by decide +kernel
theorem gl_e0_508 : decode code 508 = .ok (.goto (166), 3) := by decide +kernel
def gl_tc7 (L : Nat) (xs : Nat → Int32) : List (Nat × gx_T) := [(443, gi_ld gx_isR 1 444),
  (444, gi_ld gx_isR 0 445),
  (445, gi_ld gx_isI 4 447),
  (447, gi_k (.int (1)) 448),
  (448, gi_bin (fun a b => a + b) 449),
  (449, gi_sld L xs 450),
  (450, gi_ld gx_isR 0 451),
  (451, gi_ld gx_isI 4 453),
  (453, gi_k (.int (2)) 454),
  (454, gi_bin (fun a b => a + b) 455),
  (455, gi_sld L xs 456),
  (456, gi_ld gx_isR 3 457),
  (460, gi_st gx_isI 5 462),
  (462, gi_ld gx_isR 2 463),
  (463, gi_ld gx_isR 0 464),
  (464, gi_ld gx_isI 4 466),
  (466, gi_k (.int (1)) 467),
  (467, gi_bin (fun a b => a + b) 468),
  (468, gi_sld L xs 469),
  (469, gi_ld gx_isR 0 470),
  (470, gi_ld gx_isI 4 472),
  (472, gi_k (.int (2)) 473),
  (473, gi_bin (fun a b => a + b) 474),
  (474, gi_sld L xs 475),
  (478, gi_st gx_isI 6 480),
  (480, gi_ld gx_isR 2 481),
  (484, gi_ld gx_isI 5 486),
  (486, gi_cmp (fun x y => x = y) (fun x y => ¬ x = y) 491 489),
  (489, gi_k (.int (0)) 490),
  (491, gi_ld gx_isI 5 493),
  (493, gi_if (fun x => ¬ x = 0) (fun x => x = 0) 508 496),
  (496, gi_ld gx_isR 3 497),
  (497, gi_k (.int (0)) 498),
  (499, gi_ld gx_isI 6 501),
  (501, gi_i2l 502),
  (502, gi_lcmp 503),
  (503, gi_if (fun x => x = 0) (fun x => ¬ x = 0) 508 506),
  (506, gi_k (.int (0)) 507),
  (508, gi_goto 674)]
set_option maxRecDepth 100000 in
set_option maxHeartbeats 4000000 in
theorem gl_tc7_ok (L : Nat) (xs : Nat → Int32) : gx_all (gx_s1 (gl_zz L xs)) (gl_tc7 L xs) :=
  ⟨gq_aload_n gl_e0_443,
   gq_aload_n gl_e0_444,
   gq_iload gl_e0_445,
   gq_iconst gl_e0_447 (by decide),
   gq_iadd gl_e0_448,
   gs_sld gl_GX gl_e0_449,
   gq_aload_n gl_e0_450,
   gq_iload gl_e0_451,
   gq_iconst gl_e0_453 (by decide),
   gq_iadd gl_e0_454,
   gs_sld gl_GX gl_e0_455,
   gq_aload_n gl_e0_456,
   gq_istore gl_e0_460,
   gq_aload_n gl_e0_462,
   gq_aload_n gl_e0_463,
   gq_iload gl_e0_464,
   gq_iconst gl_e0_466 (by decide),
   gq_iadd gl_e0_467,
   gs_sld gl_GX gl_e0_468,
   gq_aload_n gl_e0_469,
   gq_iload gl_e0_470,
   gq_iconst gl_e0_472 (by decide),
   gq_iadd gl_e0_473,
   gs_sld gl_GX gl_e0_474,
   gq_istore gl_e0_478,
   gq_aload_n gl_e0_480,
   gq_iload gl_e0_484,
   gq_icmp_eq gl_e0_486 (by decide),
   gq_iconst gl_e0_489 (by decide),
   gq_iload gl_e0_491,
   gq_if_ne gl_e0_493 (by decide),
   gq_aload_n gl_e0_496,
   gq_iconst gl_e0_497 (by decide),
   gq_iload gl_e0_499,
   gs_i2l gl_e0_501,
   gs_lcmp gl_e0_502,
   gq_if_eq gl_e0_503 (by decide),
   gq_iconst gl_e0_506 (by decide),
   gq_goto gl_e0_508 (by decide), trivial⟩
theorem gl_e0_511 : decode code 511 = .ok (.aload_n 1, 1) := by decide +kernel
theorem gl_e0_512 : decode code 512 = .ok (.aload_n 0, 1) := by decide +kernel
theorem gl_e0_513 : decode code 513 = .ok (.iload 4, 2) := by decide +kernel
theorem gl_e0_515 : decode code 515 = .ok (.iconst (1), 1) := by decide +kernel
theorem gl_e0_516 : decode code 516 = .ok (.iadd, 1) := by decide +kernel
theorem gl_e0_517 : decode code 517 = .ok (.iaload, 1) := by decide +kernel
theorem gl_e0_518 : decode code 518 = .ok (.aload_n 3, 1) := by decide +kernel
theorem gl_e0_519 : decode code 519 = .ok (.invokestatic 82, 3) := by decide +kernel
theorem gl_e0_522 : decode code 522 = .ok (.istore 5, 2) := by decide +kernel
theorem gl_e0_524 : decode code 524 = .ok (.aload_n 2, 1) := by decide +kernel
theorem gl_e0_525 : decode code 525 = .ok (.aload_n 0, 1) := by decide +kernel
theorem gl_e0_526 : decode code 526 = .ok (.iload 4, 2) := by decide +kernel
theorem gl_e0_528 : decode code 528 = .ok (.iconst (1), 1) := by decide +kernel
theorem gl_e0_529 : decode code 529 = .ok (.iadd, 1) := by decide +kernel
theorem gl_e0_530 : decode code 530 = .ok (.iaload, 1) := by decide +kernel
theorem gl_e0_531 : decode code 531 = .ok (.invokevirtual 84, 3) := by decide +kernel
theorem gl_e0_534 : decode code 534 = .ok (.istore 6, 2) := by decide +kernel
theorem gl_e0_536 : decode code 536 = .ok (.aload_n 2, 1) := by decide +kernel
theorem gl_e0_537 : decode code 537 = .ok (.invokevirtual 53, 3) := by decide +kernel
theorem gl_e0_540 : decode code 540 = .ok (.iload 5, 2) := by decide +kernel
theorem gl_e0_542 : decode code 542 = .ok (.if_icmp .eq (5), 3) := by decide +kernel
theorem gl_e0_545 : decode code 545 = .ok (.iconst (0), 1) := by decide +kernel
theorem gl_e0_546 : decode code 546 = .ok (.ireturn, 1) := by decide +kernel
theorem gl_e0_547 : decode code 547 = .ok (.iload 5, 2) := by decide +kernel
theorem gl_e0_549 : decode code 549 = .ok (.ifCond .ne (15), 3) := by decide +kernel
theorem gl_e0_552 : decode code 552 = .ok (.aload_n 3, 1) := by decide +kernel
theorem gl_e0_553 : decode code 553 = .ok (.iconst (0), 1) := by decide +kernel
theorem gl_e0_554 : decode code 554 = .ok (.laload, 1) := by decide +kernel
theorem gl_e0_555 : decode code 555 = .ok (.iload 6, 2) := by decide +kernel
theorem gl_e0_557 : decode code 557 = .ok (.i2l, 1) := by decide +kernel
theorem gl_e0_558 : decode code 558 = .ok (.lcmp, 1) := by decide +kernel
theorem gl_e0_559 : decode code 559 = .ok (.ifCond .eq (5), 3) := by decide +kernel
theorem gl_e0_562 : decode code 562 = .ok (.iconst (0), 1) := by decide +kernel
theorem gl_e0_563 : decode code 563 = .ok (.ireturn, 1) := by decide +kernel
theorem gl_e0_564 : decode code 564 = .ok (.goto (110), 3) := by decide +kernel
def gl_tc8 (L : Nat) (xs : Nat → Int32) : List (Nat × gx_T) := [(511, gi_ld gx_isR 1 512),
  (512, gi_ld gx_isR 0 513),
  (513, gi_ld gx_isI 4 515),
  (515, gi_k (.int (1)) 516),
  (516, gi_bin (fun a b => a + b) 517),
  (517, gi_sld L xs 518),
  (518, gi_ld gx_isR 3 519),
  (522, gi_st gx_isI 5 524),
  (524, gi_ld gx_isR 2 525),
  (525, gi_ld gx_isR 0 526),
  (526, gi_ld gx_isI 4 528),
  (528, gi_k (.int (1)) 529),
  (529, gi_bin (fun a b => a + b) 530),
  (530, gi_sld L xs 531),
  (534, gi_st gx_isI 6 536),
  (536, gi_ld gx_isR 2 537),
  (540, gi_ld gx_isI 5 542),
  (542, gi_cmp (fun x y => x = y) (fun x y => ¬ x = y) 547 545),
  (545, gi_k (.int (0)) 546),
  (547, gi_ld gx_isI 5 549),
  (549, gi_if (fun x => ¬ x = 0) (fun x => x = 0) 564 552),
  (552, gi_ld gx_isR 3 553),
  (553, gi_k (.int (0)) 554),
  (555, gi_ld gx_isI 6 557),
  (557, gi_i2l 558),
  (558, gi_lcmp 559),
  (559, gi_if (fun x => x = 0) (fun x => ¬ x = 0) 564 562),
  (562, gi_k (.int (0)) 563),
  (564, gi_goto 674)]
set_option maxRecDepth 100000 in
set_option maxHeartbeats 4000000 in
theorem gl_tc8_ok (L : Nat) (xs : Nat → Int32) : gx_all (gx_s1 (gl_zz L xs)) (gl_tc8 L xs) :=
  ⟨gq_aload_n gl_e0_511,
   gq_aload_n gl_e0_512,
   gq_iload gl_e0_513,
   gq_iconst gl_e0_515 (by decide),
   gq_iadd gl_e0_516,
   gs_sld gl_GX gl_e0_517,
   gq_aload_n gl_e0_518,
   gq_istore gl_e0_522,
   gq_aload_n gl_e0_524,
   gq_aload_n gl_e0_525,
   gq_iload gl_e0_526,
   gq_iconst gl_e0_528 (by decide),
   gq_iadd gl_e0_529,
   gs_sld gl_GX gl_e0_530,
   gq_istore gl_e0_534,
   gq_aload_n gl_e0_536,
   gq_iload gl_e0_540,
   gq_icmp_eq gl_e0_542 (by decide),
   gq_iconst gl_e0_545 (by decide),
   gq_iload gl_e0_547,
   gq_if_ne gl_e0_549 (by decide),
   gq_aload_n gl_e0_552,
   gq_iconst gl_e0_553 (by decide),
   gq_iload gl_e0_555,
   gs_i2l gl_e0_557,
   gs_lcmp gl_e0_558,
   gq_if_eq gl_e0_559 (by decide),
   gq_iconst gl_e0_562 (by decide),
   gq_goto gl_e0_564 (by decide), trivial⟩
theorem gl_e0_567 : decode code 567 = .ok (.aload_n 1, 1) := by decide +kernel
theorem gl_e0_568 : decode code 568 = .ok (.invokevirtual 85, 3) := by decide +kernel
theorem gl_e0_571 : decode code 571 = .ok (.aload_n 2, 1) := by decide +kernel
theorem gl_e0_572 : decode code 572 = .ok (.invokevirtual 88, 3) := by decide +kernel
theorem gl_e0_575 : decode code 575 = .ok (.if_icmp .eq (99), 3) := by decide +kernel
theorem gl_e0_578 : decode code 578 = .ok (.iconst (0), 1) := by decide +kernel
theorem gl_e0_579 : decode code 579 = .ok (.ireturn, 1) := by decide +kernel
def gl_tc9 : List (Nat × gx_T) := [(567, gi_ld gx_isR 1 568),
  (571, gi_ld gx_isR 2 572),
  (575, gi_cmp (fun x y => x = y) (fun x y => ¬ x = y) 674 578),
  (578, gi_k (.int (0)) 579)]
set_option maxRecDepth 100000 in
set_option maxHeartbeats 4000000 in
theorem gl_tc9_ok (L : Nat) (xs : Nat → Int32) : gx_all (gx_s1 (gl_zz L xs)) (gl_tc9) :=
  ⟨gq_aload_n gl_e0_567,
   gq_aload_n gl_e0_571,
   gq_icmp_eq gl_e0_575 (by decide),
   gq_iconst gl_e0_578 (by decide), trivial⟩
theorem gl_e0_580 : decode code 580 = .ok (.aload_n 1, 1) := by decide +kernel
theorem gl_e0_581 : decode code 581 = .ok (.aload_n 0, 1) := by decide +kernel
theorem gl_e0_582 : decode code 582 = .ok (.iload 4, 2) := by decide +kernel
theorem gl_e0_584 : decode code 584 = .ok (.iconst (1), 1) := by decide +kernel
theorem gl_e0_585 : decode code 585 = .ok (.iadd, 1) := by decide +kernel
theorem gl_e0_586 : decode code 586 = .ok (.iaload, 1) := by decide +kernel
theorem gl_e0_587 : decode code 587 = .ok (.aload_n 0, 1) := by decide +kernel
theorem gl_e0_588 : decode code 588 = .ok (.iload 4, 2) := by decide +kernel
theorem gl_e0_590 : decode code 590 = .ok (.iconst (2), 1) := by decide +kernel
theorem gl_e0_591 : decode code 591 = .ok (.iadd, 1) := by decide +kernel
theorem gl_e0_592 : decode code 592 = .ok (.iaload, 1) := by decide +kernel
theorem gl_e0_593 : decode code 593 = .ok (.aload_n 3, 1) := by decide +kernel
theorem gl_e0_594 : decode code 594 = .ok (.invokestatic 89, 3) := by decide +kernel
theorem gl_e0_597 : decode code 597 = .ok (.istore 5, 2) := by decide +kernel
theorem gl_e0_599 : decode code 599 = .ok (.aload_n 2, 1) := by decide +kernel
theorem gl_e0_600 : decode code 600 = .ok (.aload_n 0, 1) := by decide +kernel
theorem gl_e0_601 : decode code 601 = .ok (.iload 4, 2) := by decide +kernel
theorem gl_e0_603 : decode code 603 = .ok (.iconst (1), 1) := by decide +kernel
theorem gl_e0_604 : decode code 604 = .ok (.iadd, 1) := by decide +kernel
theorem gl_e0_605 : decode code 605 = .ok (.iaload, 1) := by decide +kernel
theorem gl_e0_606 : decode code 606 = .ok (.aload_n 0, 1) := by decide +kernel
theorem gl_e0_607 : decode code 607 = .ok (.iload 4, 2) := by decide +kernel
theorem gl_e0_609 : decode code 609 = .ok (.iconst (2), 1) := by decide +kernel
theorem gl_e0_610 : decode code 610 = .ok (.iadd, 1) := by decide +kernel
theorem gl_e0_611 : decode code 611 = .ok (.iaload, 1) := by decide +kernel
theorem gl_e0_612 : decode code 612 = .ok (.invokevirtual 91, 3) := by decide +kernel
theorem gl_e0_615 : decode code 615 = .ok (.istore 6, 2) := by decide +kernel
theorem gl_e0_617 : decode code 617 = .ok (.aload_n 2, 1) := by decide +kernel
theorem gl_e0_618 : decode code 618 = .ok (.invokevirtual 53, 3) := by decide +kernel
theorem gl_e0_621 : decode code 621 = .ok (.iload 5, 2) := by decide +kernel
theorem gl_e0_623 : decode code 623 = .ok (.if_icmp .eq (5), 3) := by decide +kernel
theorem gl_e0_626 : decode code 626 = .ok (.iconst (0), 1) := by decide +kernel
theorem gl_e0_627 : decode code 627 = .ok (.ireturn, 1) := by decide +kernel
theorem gl_e0_628 : decode code 628 = .ok (.iload 5, 2) := by decide +kernel
theorem gl_e0_630 : decode code 630 = .ok (.ifCond .ne (15), 3) := by decide +kernel
theorem gl_e0_633 : decode code 633 = .ok (.aload_n 3, 1) := by decide +kernel
theorem gl_e0_634 : decode code 634 = .ok (.iconst (0), 1) := by decide +kernel
theorem gl_e0_635 : decode code 635 = .ok (.laload, 1) := by decide +kernel
theorem gl_e0_636 : decode code 636 = .ok (.iload 6, 2) := by decide +kernel
theorem gl_e0_638 : decode code 638 = .ok (.i2l, 1) := by decide +kernel
theorem gl_e0_639 : decode code 639 = .ok (.lcmp, 1) := by decide +kernel
theorem gl_e0_640 : decode code 640 = .ok (.ifCond .eq (5), 3) := by decide +kernel
theorem gl_e0_643 : decode code 643 = .ok (.iconst (0), 1) := by decide +kernel
theorem gl_e0_644 : decode code 644 = .ok (.ireturn, 1) := by decide +kernel
theorem gl_e0_645 : decode code 645 = .ok (.goto (29), 3) := by decide +kernel
def gl_tc10 (L : Nat) (xs : Nat → Int32) : List (Nat × gx_T) := [(580, gi_ld gx_isR 1 581),
  (581, gi_ld gx_isR 0 582),
  (582, gi_ld gx_isI 4 584),
  (584, gi_k (.int (1)) 585),
  (585, gi_bin (fun a b => a + b) 586),
  (586, gi_sld L xs 587),
  (587, gi_ld gx_isR 0 588),
  (588, gi_ld gx_isI 4 590),
  (590, gi_k (.int (2)) 591),
  (591, gi_bin (fun a b => a + b) 592),
  (592, gi_sld L xs 593),
  (593, gi_ld gx_isR 3 594),
  (597, gi_st gx_isI 5 599),
  (599, gi_ld gx_isR 2 600),
  (600, gi_ld gx_isR 0 601),
  (601, gi_ld gx_isI 4 603),
  (603, gi_k (.int (1)) 604),
  (604, gi_bin (fun a b => a + b) 605),
  (605, gi_sld L xs 606),
  (606, gi_ld gx_isR 0 607),
  (607, gi_ld gx_isI 4 609),
  (609, gi_k (.int (2)) 610),
  (610, gi_bin (fun a b => a + b) 611),
  (611, gi_sld L xs 612),
  (615, gi_st gx_isI 6 617),
  (617, gi_ld gx_isR 2 618),
  (621, gi_ld gx_isI 5 623),
  (623, gi_cmp (fun x y => x = y) (fun x y => ¬ x = y) 628 626),
  (626, gi_k (.int (0)) 627),
  (628, gi_ld gx_isI 5 630),
  (630, gi_if (fun x => ¬ x = 0) (fun x => x = 0) 645 633),
  (633, gi_ld gx_isR 3 634),
  (634, gi_k (.int (0)) 635),
  (636, gi_ld gx_isI 6 638),
  (638, gi_i2l 639),
  (639, gi_lcmp 640),
  (640, gi_if (fun x => x = 0) (fun x => ¬ x = 0) 645 643),
  (643, gi_k (.int (0)) 644),
  (645, gi_goto 674)]
set_option maxRecDepth 100000 in
set_option maxHeartbeats 4000000 in
theorem gl_tc10_ok (L : Nat) (xs : Nat → Int32) : gx_all (gx_s1 (gl_zz L xs)) (gl_tc10 L xs) :=
  ⟨gq_aload_n gl_e0_580,
   gq_aload_n gl_e0_581,
   gq_iload gl_e0_582,
   gq_iconst gl_e0_584 (by decide),
   gq_iadd gl_e0_585,
   gs_sld gl_GX gl_e0_586,
   gq_aload_n gl_e0_587,
   gq_iload gl_e0_588,
   gq_iconst gl_e0_590 (by decide),
   gq_iadd gl_e0_591,
   gs_sld gl_GX gl_e0_592,
   gq_aload_n gl_e0_593,
   gq_istore gl_e0_597,
   gq_aload_n gl_e0_599,
   gq_aload_n gl_e0_600,
   gq_iload gl_e0_601,
   gq_iconst gl_e0_603 (by decide),
   gq_iadd gl_e0_604,
   gs_sld gl_GX gl_e0_605,
   gq_aload_n gl_e0_606,
   gq_iload gl_e0_607,
   gq_iconst gl_e0_609 (by decide),
   gq_iadd gl_e0_610,
   gs_sld gl_GX gl_e0_611,
   gq_istore gl_e0_615,
   gq_aload_n gl_e0_617,
   gq_iload gl_e0_621,
   gq_icmp_eq gl_e0_623 (by decide),
   gq_iconst gl_e0_626 (by decide),
   gq_iload gl_e0_628,
   gq_if_ne gl_e0_630 (by decide),
   gq_aload_n gl_e0_633,
   gq_iconst gl_e0_634 (by decide),
   gq_iload gl_e0_636,
   gs_i2l gl_e0_638,
   gs_lcmp gl_e0_639,
   gq_if_eq gl_e0_640 (by decide),
   gq_iconst gl_e0_643 (by decide),
   gq_goto gl_e0_645 (by decide), trivial⟩
theorem gl_e0_648 : decode code 648 = .ok (.aload_n 1, 1) := by decide +kernel
theorem gl_e0_649 : decode code 649 = .ok (.invokevirtual 92, 3) := by decide +kernel
theorem gl_e0_652 : decode code 652 = .ok (.aload_n 2, 1) := by decide +kernel
theorem gl_e0_653 : decode code 653 = .ok (.invokevirtual 95, 3) := by decide +kernel
theorem gl_e0_656 : decode code 656 = .ok (.if_icmp .eq (18), 3) := by decide +kernel
theorem gl_e0_659 : decode code 659 = .ok (.iconst (0), 1) := by decide +kernel
theorem gl_e0_660 : decode code 660 = .ok (.ireturn, 1) := by decide +kernel
def gl_tc11 : List (Nat × gx_T) := [(648, gi_ld gx_isR 1 649),
  (652, gi_ld gx_isR 2 653),
  (656, gi_cmp (fun x y => x = y) (fun x y => ¬ x = y) 674 659),
  (659, gi_k (.int (0)) 660)]
set_option maxRecDepth 100000 in
set_option maxHeartbeats 4000000 in
theorem gl_tc11_ok (L : Nat) (xs : Nat → Int32) : gx_all (gx_s1 (gl_zz L xs)) (gl_tc11) :=
  ⟨gq_aload_n gl_e0_648,
   gq_aload_n gl_e0_652,
   gq_icmp_eq gl_e0_656 (by decide),
   gq_iconst gl_e0_659 (by decide), trivial⟩
theorem gl_e0_661 : decode code 661 = .ok (.aload_n 1, 1) := by decide +kernel
theorem gl_e0_662 : decode code 662 = .ok (.invokevirtual 96, 3) := by decide +kernel
theorem gl_e0_665 : decode code 665 = .ok (.aload_n 2, 1) := by decide +kernel
theorem gl_e0_666 : decode code 666 = .ok (.invokevirtual 99, 3) := by decide +kernel
theorem gl_e0_669 : decode code 669 = .ok (.if_icmp .eq (5), 3) := by decide +kernel
theorem gl_e0_672 : decode code 672 = .ok (.iconst (0), 1) := by decide +kernel
theorem gl_e0_673 : decode code 673 = .ok (.ireturn, 1) := by decide +kernel
def gl_tc12 : List (Nat × gx_T) := [(661, gi_ld gx_isR 1 662),
  (665, gi_ld gx_isR 2 666),
  (669, gi_cmp (fun x y => x = y) (fun x y => ¬ x = y) 674 672),
  (672, gi_k (.int (0)) 673)]
set_option maxRecDepth 100000 in
set_option maxHeartbeats 4000000 in
theorem gl_tc12_ok (L : Nat) (xs : Nat → Int32) : gx_all (gx_s1 (gl_zz L xs)) (gl_tc12) :=
  ⟨gq_aload_n gl_e0_661,
   gq_aload_n gl_e0_665,
   gq_icmp_eq gl_e0_669 (by decide),
   gq_iconst gl_e0_672 (by decide), trivial⟩
