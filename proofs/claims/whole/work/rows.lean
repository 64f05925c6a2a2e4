section
-- ===== PART A: goes FIRST, ahead of the names: the tables' words, and 'selects' of the private methods out of them =====
/-- a private method of a class that the tables say can be made, by its rows of tables_1 -/
def lw_okq (q : MethodName × Nat) : Prop := (q.1.cls ≠ "java/lang/invoke/MethodHandle" ∧ q.1.cls ≠ "java/lang/invoke/VarHandle") ∧ Cond.instantiable q.1.cls q.2 ∈ tables_1 ∧ Cond.privateMethod q.1 ∈ tables_1 ∧ Cond.instanceMethod q.1 ∈ tables_1
theorem lw_p0 : lw_okq (⟨"java/lang/Throwable", "fillInStackTrace", "(I)Ljava/lang/Throwable;"⟩, 6) := ⟨⟨by decide +kernel, by decide +kernel⟩, List.mem_of_getElem? (i := 241) (by decide +kernel), List.mem_of_getElem? (i := 239) (by decide +kernel), List.mem_of_getElem? (i := 240) (by decide +kernel)⟩
theorem lw_p1 : lw_okq (⟨"GrammarMachine$Reader", "next", "()C"⟩, 3) := ⟨⟨by decide +kernel, by decide +kernel⟩, List.mem_of_getElem? (i := 39) (by decide +kernel), List.mem_of_getElem? (i := 280) (by decide +kernel), List.mem_of_getElem? (i := 281) (by decide +kernel)⟩
theorem lw_p2 : lw_okq (⟨"GrammarMachine$Reader", "pass", "(C)V"⟩, 3) := ⟨⟨by decide +kernel, by decide +kernel⟩, List.mem_of_getElem? (i := 39) (by decide +kernel), List.mem_of_getElem? (i := 289) (by decide +kernel), List.mem_of_getElem? (i := 290) (by decide +kernel)⟩
theorem lw_p3 : lw_okq (⟨"GrammarMachine$Reader", "passes", "(C)Z"⟩, 3) := ⟨⟨by decide +kernel, by decide +kernel⟩, List.mem_of_getElem? (i := 39) (by decide +kernel), List.mem_of_getElem? (i := 293) (by decide +kernel), List.mem_of_getElem? (i := 294) (by decide +kernel)⟩
theorem lw_p4 : lw_okq (⟨"GrammarMachine$Reader", "readChoice", "(I)LGrammarMachine$Pattern;"⟩, 3) := ⟨⟨by decide +kernel, by decide +kernel⟩, List.mem_of_getElem? (i := 39) (by decide +kernel), List.mem_of_getElem? (i := 297) (by decide +kernel), List.mem_of_getElem? (i := 298) (by decide +kernel)⟩
theorem lw_p5 : lw_okq (⟨"GrammarMachine$Reader", "readSequence", "(I)LGrammarMachine$Pattern;"⟩, 3) := ⟨⟨by decide +kernel, by decide +kernel⟩, List.mem_of_getElem? (i := 39) (by decide +kernel), List.mem_of_getElem? (i := 301) (by decide +kernel), List.mem_of_getElem? (i := 302) (by decide +kernel)⟩
theorem lw_p6 : lw_okq (⟨"GrammarMachine$Reader", "readItem", "(I)LGrammarMachine$Pattern;"⟩, 3) := ⟨⟨by decide +kernel, by decide +kernel⟩, List.mem_of_getElem? (i := 39) (by decide +kernel), List.mem_of_getElem? (i := 305) (by decide +kernel), List.mem_of_getElem? (i := 306) (by decide +kernel)⟩
theorem lw_p7 : lw_okq (⟨"GrammarMachine$Reader", "readPiece", "(I)LGrammarMachine$Pattern;"⟩, 3) := ⟨⟨by decide +kernel, by decide +kernel⟩, List.mem_of_getElem? (i := 39) (by decide +kernel), List.mem_of_getElem? (i := 309) (by decide +kernel), List.mem_of_getElem? (i := 310) (by decide +kernel)⟩
theorem lw_p8 : lw_okq (⟨"GrammarMachine$Reader", "readAtom", "(I)LGrammarMachine$Pattern;"⟩, 3) := ⟨⟨by decide +kernel, by decide +kernel⟩, List.mem_of_getElem? (i := 39) (by decide +kernel), List.mem_of_getElem? (i := 313) (by decide +kernel), List.mem_of_getElem? (i := 314) (by decide +kernel)⟩
theorem lw_p9 : lw_okq (⟨"GrammarMachine$Reader", "readBracket", "(I)LGrammarMachine$Pattern;"⟩, 3) := ⟨⟨by decide +kernel, by decide +kernel⟩, List.mem_of_getElem? (i := 39) (by decide +kernel), List.mem_of_getElem? (i := 317) (by decide +kernel), List.mem_of_getElem? (i := 318) (by decide +kernel)⟩
theorem lw_p10 : lw_okq (⟨"GrammarMachine$Reader", "readRange", "()LGrammarMachine$Pattern;"⟩, 3) := ⟨⟨by decide +kernel, by decide +kernel⟩, List.mem_of_getElem? (i := 39) (by decide +kernel), List.mem_of_getElem? (i := 334) (by decide +kernel), List.mem_of_getElem? (i := 335) (by decide +kernel)⟩
theorem lw_p11 : lw_okq (⟨"GrammarMachine$Reader", "readPlain", "()C"⟩, 3) := ⟨⟨by decide +kernel, by decide +kernel⟩, List.mem_of_getElem? (i := 39) (by decide +kernel), List.mem_of_getElem? (i := 338) (by decide +kernel), List.mem_of_getElem? (i := 339) (by decide +kernel)⟩
theorem lw_p12 : lw_okq (⟨"java/util/ArrayList", "add", "(Ljava/lang/Object;[Ljava/lang/Object;I)V"⟩, 3) := ⟨⟨by decide +kernel, by decide +kernel⟩, List.mem_of_getElem? (i := 406) (by decide +kernel), List.mem_of_getElem? (i := 450) (by decide +kernel), List.mem_of_getElem? (i := 451) (by decide +kernel)⟩
theorem lw_p13 : lw_okq (⟨"java/util/ArrayList", "grow", "()[Ljava/lang/Object;"⟩, 3) := ⟨⟨by decide +kernel, by decide +kernel⟩, List.mem_of_getElem? (i := 406) (by decide +kernel), List.mem_of_getElem? (i := 454) (by decide +kernel), List.mem_of_getElem? (i := 455) (by decide +kernel)⟩
theorem lw_p14 : lw_okq (⟨"java/util/ArrayList", "grow", "(I)[Ljava/lang/Object;"⟩, 3) := ⟨⟨by decide +kernel, by decide +kernel⟩, List.mem_of_getElem? (i := 406) (by decide +kernel), List.mem_of_getElem? (i := 458) (by decide +kernel), List.mem_of_getElem? (i := 459) (by decide +kernel)⟩
theorem lw_p15 : lw_okq (⟨"GrammarMachine$Grammar", "neededBy", "(I)I"⟩, 4) := ⟨⟨by decide +kernel, by decide +kernel⟩, List.mem_of_getElem? (i := 56) (by decide +kernel), List.mem_of_getElem? (i := 579) (by decide +kernel), List.mem_of_getElem? (i := 580) (by decide +kernel)⟩
def lw_privs_1 : List (MethodName × Nat) := [(⟨"java/lang/Throwable", "fillInStackTrace", "(I)Ljava/lang/Throwable;"⟩, 6), (⟨"GrammarMachine$Reader", "next", "()C"⟩, 3), (⟨"GrammarMachine$Reader", "pass", "(C)V"⟩, 3), (⟨"GrammarMachine$Reader", "passes", "(C)Z"⟩, 3), (⟨"GrammarMachine$Reader", "readChoice", "(I)LGrammarMachine$Pattern;"⟩, 3), (⟨"GrammarMachine$Reader", "readSequence", "(I)LGrammarMachine$Pattern;"⟩, 3), (⟨"GrammarMachine$Reader", "readItem", "(I)LGrammarMachine$Pattern;"⟩, 3), (⟨"GrammarMachine$Reader", "readPiece", "(I)LGrammarMachine$Pattern;"⟩, 3), (⟨"GrammarMachine$Reader", "readAtom", "(I)LGrammarMachine$Pattern;"⟩, 3), (⟨"GrammarMachine$Reader", "readBracket", "(I)LGrammarMachine$Pattern;"⟩, 3), (⟨"GrammarMachine$Reader", "readRange", "()LGrammarMachine$Pattern;"⟩, 3), (⟨"GrammarMachine$Reader", "readPlain", "()C"⟩, 3), (⟨"java/util/ArrayList", "add", "(Ljava/lang/Object;[Ljava/lang/Object;I)V"⟩, 3), (⟨"java/util/ArrayList", "grow", "()[Ljava/lang/Object;"⟩, 3), (⟨"java/util/ArrayList", "grow", "(I)[Ljava/lang/Object;"⟩, 3), (⟨"GrammarMachine$Grammar", "neededBy", "(I)I"⟩, 4)]
theorem lw_r1 : ∀ q ∈ lw_privs_1, lw_okq q := List.forall_mem_cons.mpr ⟨lw_p0, List.forall_mem_cons.mpr ⟨lw_p1, List.forall_mem_cons.mpr ⟨lw_p2, List.forall_mem_cons.mpr ⟨lw_p3, List.forall_mem_cons.mpr ⟨lw_p4, List.forall_mem_cons.mpr ⟨lw_p5, List.forall_mem_cons.mpr ⟨lw_p6, List.forall_mem_cons.mpr ⟨lw_p7, List.forall_mem_cons.mpr ⟨lw_p8, List.forall_mem_cons.mpr ⟨lw_p9, List.forall_mem_cons.mpr ⟨lw_p10, List.forall_mem_cons.mpr ⟨lw_p11, List.forall_mem_cons.mpr ⟨lw_p12, List.forall_mem_cons.mpr ⟨lw_p13, List.forall_mem_cons.mpr ⟨lw_p14, List.forall_mem_cons.mpr ⟨lw_p15, fun _ h => absurd h List.not_mem_nil⟩⟩⟩⟩⟩⟩⟩⟩⟩⟩⟩⟩⟩⟩⟩⟩
theorem lw_p16 : lw_okq (⟨"GrammarMachine$Grammar", "namesIn", "(I)I"⟩, 4) := ⟨⟨by decide +kernel, by decide +kernel⟩, List.mem_of_getElem? (i := 56) (by decide +kernel), List.mem_of_getElem? (i := 586) (by decide +kernel), List.mem_of_getElem? (i := 587) (by decide +kernel)⟩
theorem lw_p17 : lw_okq (⟨"GrammarMachine$Grammar", "allDefined", "(I)Z"⟩, 4) := ⟨⟨by decide +kernel, by decide +kernel⟩, List.mem_of_getElem? (i := 56) (by decide +kernel), List.mem_of_getElem? (i := 590) (by decide +kernel), List.mem_of_getElem? (i := 591) (by decide +kernel)⟩
theorem lw_p18 : lw_okq (⟨"GrammarMachine$Grammar", "emptyableRules", "()I"⟩, 4) := ⟨⟨by decide +kernel, by decide +kernel⟩, List.mem_of_getElem? (i := 56) (by decide +kernel), List.mem_of_getElem? (i := 594) (by decide +kernel), List.mem_of_getElem? (i := 595) (by decide +kernel)⟩
theorem lw_p19 : lw_okq (⟨"GrammarMachine$Grammar", "arrange", "(II)Z"⟩, 4) := ⟨⟨by decide +kernel, by decide +kernel⟩, List.mem_of_getElem? (i := 56) (by decide +kernel), List.mem_of_getElem? (i := 661) (by decide +kernel), List.mem_of_getElem? (i := 662) (by decide +kernel)⟩
theorem lw_p20 : lw_okq (⟨"GrammarMachine$Grammar", "someGoesRound", "(II)Z"⟩, 4) := ⟨⟨by decide +kernel, by decide +kernel⟩, List.mem_of_getElem? (i := 56) (by decide +kernel), List.mem_of_getElem? (i := 694) (by decide +kernel), List.mem_of_getElem? (i := 695) (by decide +kernel)⟩
theorem lw_p21 : lw_okq (⟨"GrammarMachine", "refuseUnlessSound", "(I)V"⟩, 8) := ⟨⟨by decide +kernel, by decide +kernel⟩, List.mem_of_getElem? (i := 31) (by decide +kernel), List.mem_of_getElem? (i := 735) (by decide +kernel), List.mem_of_getElem? (i := 736) (by decide +kernel)⟩
theorem lw_p22 : lw_okq (⟨"GrammarMachine$Chart", "fillRow", "(ILGrammarMachine$Pattern;I)V"⟩, 9) := ⟨⟨by decide +kernel, by decide +kernel⟩, List.mem_of_getElem? (i := 81) (by decide +kernel), List.mem_of_getElem? (i := 762) (by decide +kernel), List.mem_of_getElem? (i := 763) (by decide +kernel)⟩
theorem lw_p23 : lw_okq (⟨"GrammarMachineModel", "read", "()Z"⟩, 35) := ⟨⟨by decide +kernel, by decide +kernel⟩, List.mem_of_getElem? (i := 856) (by decide +kernel), List.mem_of_getElem? (i := 992) (by decide +kernel), List.mem_of_getElem? (i := 993) (by decide +kernel)⟩
theorem lw_p24 : lw_okq (⟨"GrammarMachineModel", "look", "(I)I"⟩, 35) := ⟨⟨by decide +kernel, by decide +kernel⟩, List.mem_of_getElem? (i := 856) (by decide +kernel), List.mem_of_getElem? (i := 996) (by decide +kernel), List.mem_of_getElem? (i := 997) (by decide +kernel)⟩
theorem lw_p25 : lw_okq (⟨"GrammarMachineModel", "goesIn", "(I)V"⟩, 35) := ⟨⟨by decide +kernel, by decide +kernel⟩, List.mem_of_getElem? (i := 856) (by decide +kernel), List.mem_of_getElem? (i := 1000) (by decide +kernel), List.mem_of_getElem? (i := 1001) (by decide +kernel)⟩
theorem lw_p26 : lw_okq (⟨"GrammarMachineModel", "make", "(II)I"⟩, 35) := ⟨⟨by decide +kernel, by decide +kernel⟩, List.mem_of_getElem? (i := 856) (by decide +kernel), List.mem_of_getElem? (i := 1004) (by decide +kernel), List.mem_of_getElem? (i := 1005) (by decide +kernel)⟩
theorem lw_p27 : lw_okq (⟨"GrammarMachineModel", "newSequence", "()V"⟩, 35) := ⟨⟨by decide +kernel, by decide +kernel⟩, List.mem_of_getElem? (i := 856) (by decide +kernel), List.mem_of_getElem? (i := 1008) (by decide +kernel), List.mem_of_getElem? (i := 1009) (by decide +kernel)⟩
theorem lw_p28 : lw_okq (⟨"GrammarMachineModel", "append", "(II)V"⟩, 35) := ⟨⟨by decide +kernel, by decide +kernel⟩, List.mem_of_getElem? (i := 856) (by decide +kernel), List.mem_of_getElem? (i := 1012) (by decide +kernel), List.mem_of_getElem? (i := 1013) (by decide +kernel)⟩
theorem lw_p29 : lw_okq (⟨"GrammarMachineModel", "readItem", "()V"⟩, 35) := ⟨⟨by decide +kernel, by decide +kernel⟩, List.mem_of_getElem? (i := 856) (by decide +kernel), List.mem_of_getElem? (i := 1016) (by decide +kernel), List.mem_of_getElem? (i := 1017) (by decide +kernel)⟩
theorem lw_p30 : lw_okq (⟨"GrammarMachineModel", "atom", "()I"⟩, 35) := ⟨⟨by decide +kernel, by decide +kernel⟩, List.mem_of_getElem? (i := 856) (by decide +kernel), List.mem_of_getElem? (i := 1020) (by decide +kernel), List.mem_of_getElem? (i := 1021) (by decide +kernel)⟩
theorem lw_p31 : lw_okq (⟨"GrammarMachineModel", "character", "(II)I"⟩, 35) := ⟨⟨by decide +kernel, by decide +kernel⟩, List.mem_of_getElem? (i := 856) (by decide +kernel), List.mem_of_getElem? (i := 1027) (by decide +kernel), List.mem_of_getElem? (i := 1028) (by decide +kernel)⟩
def lw_privs_2 : List (MethodName × Nat) := [(⟨"GrammarMachine$Grammar", "namesIn", "(I)I"⟩, 4), (⟨"GrammarMachine$Grammar", "allDefined", "(I)Z"⟩, 4), (⟨"GrammarMachine$Grammar", "emptyableRules", "()I"⟩, 4), (⟨"GrammarMachine$Grammar", "arrange", "(II)Z"⟩, 4), (⟨"GrammarMachine$Grammar", "someGoesRound", "(II)Z"⟩, 4), (⟨"GrammarMachine", "refuseUnlessSound", "(I)V"⟩, 8), (⟨"GrammarMachine$Chart", "fillRow", "(ILGrammarMachine$Pattern;I)V"⟩, 9), (⟨"GrammarMachineModel", "read", "()Z"⟩, 35), (⟨"GrammarMachineModel", "look", "(I)I"⟩, 35), (⟨"GrammarMachineModel", "goesIn", "(I)V"⟩, 35), (⟨"GrammarMachineModel", "make", "(II)I"⟩, 35), (⟨"GrammarMachineModel", "newSequence", "()V"⟩, 35), (⟨"GrammarMachineModel", "append", "(II)V"⟩, 35), (⟨"GrammarMachineModel", "readItem", "()V"⟩, 35), (⟨"GrammarMachineModel", "atom", "()I"⟩, 35), (⟨"GrammarMachineModel", "character", "(II)I"⟩, 35)]
theorem lw_r2 : ∀ q ∈ lw_privs_2, lw_okq q := List.forall_mem_cons.mpr ⟨lw_p16, List.forall_mem_cons.mpr ⟨lw_p17, List.forall_mem_cons.mpr ⟨lw_p18, List.forall_mem_cons.mpr ⟨lw_p19, List.forall_mem_cons.mpr ⟨lw_p20, List.forall_mem_cons.mpr ⟨lw_p21, List.forall_mem_cons.mpr ⟨lw_p22, List.forall_mem_cons.mpr ⟨lw_p23, List.forall_mem_cons.mpr ⟨lw_p24, List.forall_mem_cons.mpr ⟨lw_p25, List.forall_mem_cons.mpr ⟨lw_p26, List.forall_mem_cons.mpr ⟨lw_p27, List.forall_mem_cons.mpr ⟨lw_p28, List.forall_mem_cons.mpr ⟨lw_p29, List.forall_mem_cons.mpr ⟨lw_p30, List.forall_mem_cons.mpr ⟨lw_p31, fun _ h => absurd h List.not_mem_nil⟩⟩⟩⟩⟩⟩⟩⟩⟩⟩⟩⟩⟩⟩⟩⟩
theorem lw_p32 : lw_okq (⟨"GrammarMachineModel", "take", "(I)V"⟩, 35) := ⟨⟨by decide +kernel, by decide +kernel⟩, List.mem_of_getElem? (i := 856) (by decide +kernel), List.mem_of_getElem? (i := 1031) (by decide +kernel), List.mem_of_getElem? (i := 1032) (by decide +kernel)⟩
theorem lw_p33 : lw_okq (⟨"GrammarMachineModel", "closeAll", "()V"⟩, 35) := ⟨⟨by decide +kernel, by decide +kernel⟩, List.mem_of_getElem? (i := 856) (by decide +kernel), List.mem_of_getElem? (i := 1035) (by decide +kernel), List.mem_of_getElem? (i := 1036) (by decide +kernel)⟩
theorem lw_p34 : lw_okq (⟨"GrammarMachineModel", "checked", "(I)I"⟩, 35) := ⟨⟨by decide +kernel, by decide +kernel⟩, List.mem_of_getElem? (i := 856) (by decide +kernel), List.mem_of_getElem? (i := 1054) (by decide +kernel), List.mem_of_getElem? (i := 1055) (by decide +kernel)⟩
theorem lw_p35 : lw_okq (⟨"GrammarMachineModel", "work", "()V"⟩, 35) := ⟨⟨by decide +kernel, by decide +kernel⟩, List.mem_of_getElem? (i := 856) (by decide +kernel), List.mem_of_getElem? (i := 1058) (by decide +kernel), List.mem_of_getElem? (i := 1059) (by decide +kernel)⟩
theorem lw_p36 : lw_okq (⟨"GrammarMachineModel", "isNode", "(I)Z"⟩, 35) := ⟨⟨by decide +kernel, by decide +kernel⟩, List.mem_of_getElem? (i := 856) (by decide +kernel), List.mem_of_getElem? (i := 1062) (by decide +kernel), List.mem_of_getElem? (i := 1063) (by decide +kernel)⟩
theorem lw_p37 : lw_okq (⟨"GrammarMachineModel", "emptyNow", "(I)Z"⟩, 35) := ⟨⟨by decide +kernel, by decide +kernel⟩, List.mem_of_getElem? (i := 856) (by decide +kernel), List.mem_of_getElem? (i := 1066) (by decide +kernel), List.mem_of_getElem? (i := 1067) (by decide +kernel)⟩
theorem lw_p38 : lw_okq (⟨"GrammarMachineModel", "startsNow", "(I)I"⟩, 35) := ⟨⟨by decide +kernel, by decide +kernel⟩, List.mem_of_getElem? (i := 856) (by decide +kernel), List.mem_of_getElem? (i := 1070) (by decide +kernel), List.mem_of_getElem? (i := 1071) (by decide +kernel)⟩
theorem lw_p39 : lw_okq (⟨"GrammarMachineModel", "reached", "(II)I"⟩, 35) := ⟨⟨by decide +kernel, by decide +kernel⟩, List.mem_of_getElem? (i := 856) (by decide +kernel), List.mem_of_getElem? (i := 1074) (by decide +kernel), List.mem_of_getElem? (i := 1075) (by decide +kernel)⟩
theorem lw_p40 : lw_okq (⟨"GrammarMachineModel", "findEnds", "()V"⟩, 35) := ⟨⟨by decide +kernel, by decide +kernel⟩, List.mem_of_getElem? (i := 856) (by decide +kernel), List.mem_of_getElem? (i := 1082) (by decide +kernel), List.mem_of_getElem? (i := 1083) (by decide +kernel)⟩
theorem lw_p41 : lw_okq (⟨"GrammarMachineModel", "endNow", "(II)I"⟩, 35) := ⟨⟨by decide +kernel, by decide +kernel⟩, List.mem_of_getElem? (i := 856) (by decide +kernel), List.mem_of_getElem? (i := 1086) (by decide +kernel), List.mem_of_getElem? (i := 1087) (by decide +kernel)⟩
theorem lw_p42 : lw_okq (⟨"GrammarMachineModel", "sequenceFrom", "(II)I"⟩, 35) := ⟨⟨by decide +kernel, by decide +kernel⟩, List.mem_of_getElem? (i := 856) (by decide +kernel), List.mem_of_getElem? (i := 1090) (by decide +kernel), List.mem_of_getElem? (i := 1091) (by decide +kernel)⟩
theorem lw_p43 : lw_okq (⟨"GrammarMachineModel", "choiceFrom", "(II)I"⟩, 35) := ⟨⟨by decide +kernel, by decide +kernel⟩, List.mem_of_getElem? (i := 856) (by decide +kernel), List.mem_of_getElem? (i := 1094) (by decide +kernel), List.mem_of_getElem? (i := 1095) (by decide +kernel)⟩
theorem lw_p44 : lw_okq (⟨"GrammarMachineModel", "roundFrom", "(II)I"⟩, 35) := ⟨⟨by decide +kernel, by decide +kernel⟩, List.mem_of_getElem? (i := 856) (by decide +kernel), List.mem_of_getElem? (i := 1098) (by decide +kernel), List.mem_of_getElem? (i := 1099) (by decide +kernel)⟩
theorem lw_p45 : lw_okq (⟨"GrammarMachineModel", "matched", "(II)I"⟩, 35) := ⟨⟨by decide +kernel, by decide +kernel⟩, List.mem_of_getElem? (i := 856) (by decide +kernel), List.mem_of_getElem? (i := 1102) (by decide +kernel), List.mem_of_getElem? (i := 1103) (by decide +kernel)⟩
theorem lw_p46 : lw_okq (⟨"GrammarMachineModel", "lookAll", "(II)V"⟩, 35) := ⟨⟨by decide +kernel, by decide +kernel⟩, List.mem_of_getElem? (i := 856) (by decide +kernel), List.mem_of_getElem? (i := 1106) (by decide +kernel), List.mem_of_getElem? (i := 1107) (by decide +kernel)⟩
theorem lw_p47 : lw_okq (⟨"GrammarMachineModel", "rule", "(II)V"⟩, 35) := ⟨⟨by decide +kernel, by decide +kernel⟩, List.mem_of_getElem? (i := 856) (by decide +kernel), List.mem_of_getElem? (i := 1110) (by decide +kernel), List.mem_of_getElem? (i := 1111) (by decide +kernel)⟩
def lw_privs_3 : List (MethodName × Nat) := [(⟨"GrammarMachineModel", "take", "(I)V"⟩, 35), (⟨"GrammarMachineModel", "closeAll", "()V"⟩, 35), (⟨"GrammarMachineModel", "checked", "(I)I"⟩, 35), (⟨"GrammarMachineModel", "work", "()V"⟩, 35), (⟨"GrammarMachineModel", "isNode", "(I)Z"⟩, 35), (⟨"GrammarMachineModel", "emptyNow", "(I)Z"⟩, 35), (⟨"GrammarMachineModel", "startsNow", "(I)I"⟩, 35), (⟨"GrammarMachineModel", "reached", "(II)I"⟩, 35), (⟨"GrammarMachineModel", "findEnds", "()V"⟩, 35), (⟨"GrammarMachineModel", "endNow", "(II)I"⟩, 35), (⟨"GrammarMachineModel", "sequenceFrom", "(II)I"⟩, 35), (⟨"GrammarMachineModel", "choiceFrom", "(II)I"⟩, 35), (⟨"GrammarMachineModel", "roundFrom", "(II)I"⟩, 35), (⟨"GrammarMachineModel", "matched", "(II)I"⟩, 35), (⟨"GrammarMachineModel", "lookAll", "(II)V"⟩, 35), (⟨"GrammarMachineModel", "rule", "(II)V"⟩, 35)]
theorem lw_r3 : ∀ q ∈ lw_privs_3, lw_okq q := List.forall_mem_cons.mpr ⟨lw_p32, List.forall_mem_cons.mpr ⟨lw_p33, List.forall_mem_cons.mpr ⟨lw_p34, List.forall_mem_cons.mpr ⟨lw_p35, List.forall_mem_cons.mpr ⟨lw_p36, List.forall_mem_cons.mpr ⟨lw_p37, List.forall_mem_cons.mpr ⟨lw_p38, List.forall_mem_cons.mpr ⟨lw_p39, List.forall_mem_cons.mpr ⟨lw_p40, List.forall_mem_cons.mpr ⟨lw_p41, List.forall_mem_cons.mpr ⟨lw_p42, List.forall_mem_cons.mpr ⟨lw_p43, List.forall_mem_cons.mpr ⟨lw_p44, List.forall_mem_cons.mpr ⟨lw_p45, List.forall_mem_cons.mpr ⟨lw_p46, List.forall_mem_cons.mpr ⟨lw_p47, fun _ h => absurd h List.not_mem_nil⟩⟩⟩⟩⟩⟩⟩⟩⟩⟩⟩⟩⟩⟩⟩⟩
theorem lw_p48 : lw_okq (⟨"GrammarMachineModel", "lookAt", "(II)V"⟩, 35) := ⟨⟨by decide +kernel, by decide +kernel⟩, List.mem_of_getElem? (i := 856) (by decide +kernel), List.mem_of_getElem? (i := 1114) (by decide +kernel), List.mem_of_getElem? (i := 1115) (by decide +kernel)⟩
theorem lw_p49 : lw_okq (⟨"GrammarMachineModel", "lookWithin", "(II)V"⟩, 35) := ⟨⟨by decide +kernel, by decide +kernel⟩, List.mem_of_getElem? (i := 856) (by decide +kernel), List.mem_of_getElem? (i := 1118) (by decide +kernel), List.mem_of_getElem? (i := 1119) (by decide +kernel)⟩
theorem lw_p50 : lw_okq (⟨"GrammarMachineModel", "push", "(II)V"⟩, 35) := ⟨⟨by decide +kernel, by decide +kernel⟩, List.mem_of_getElem? (i := 856) (by decide +kernel), List.mem_of_getElem? (i := 1122) (by decide +kernel), List.mem_of_getElem? (i := 1123) (by decide +kernel)⟩
theorem lw_p51 : lw_okq (⟨"GrammarMachineModel", "captureWithin", "(II)V"⟩, 35) := ⟨⟨by decide +kernel, by decide +kernel⟩, List.mem_of_getElem? (i := 856) (by decide +kernel), List.mem_of_getElem? (i := 1126) (by decide +kernel), List.mem_of_getElem? (i := 1127) (by decide +kernel)⟩
theorem lw_p52 : lw_okq (⟨"GrammarMachineModel", "keep", "(II)V"⟩, 35) := ⟨⟨by decide +kernel, by decide +kernel⟩, List.mem_of_getElem? (i := 856) (by decide +kernel), List.mem_of_getElem? (i := 1130) (by decide +kernel), List.mem_of_getElem? (i := 1131) (by decide +kernel)⟩
theorem lw_p53 : lw_okq (⟨"GrammarMachineModel", "turn", "(I)V"⟩, 35) := ⟨⟨by decide +kernel, by decide +kernel⟩, List.mem_of_getElem? (i := 856) (by decide +kernel), List.mem_of_getElem? (i := 1134) (by decide +kernel), List.mem_of_getElem? (i := 1135) (by decide +kernel)⟩
def lw_privs_4 : List (MethodName × Nat) := [(⟨"GrammarMachineModel", "lookAt", "(II)V"⟩, 35), (⟨"GrammarMachineModel", "lookWithin", "(II)V"⟩, 35), (⟨"GrammarMachineModel", "push", "(II)V"⟩, 35), (⟨"GrammarMachineModel", "captureWithin", "(II)V"⟩, 35), (⟨"GrammarMachineModel", "keep", "(II)V"⟩, 35), (⟨"GrammarMachineModel", "turn", "(I)V"⟩, 35)]
theorem lw_r4 : ∀ q ∈ lw_privs_4, lw_okq q := List.forall_mem_cons.mpr ⟨lw_p48, List.forall_mem_cons.mpr ⟨lw_p49, List.forall_mem_cons.mpr ⟨lw_p50, List.forall_mem_cons.mpr ⟨lw_p51, List.forall_mem_cons.mpr ⟨lw_p52, List.forall_mem_cons.mpr ⟨lw_p53, fun _ h => absurd h List.not_mem_nil⟩⟩⟩⟩⟩⟩
def lw_privs : List (MethodName × Nat) := lw_privs_1 ++ (lw_privs_2 ++ (lw_privs_3 ++ (lw_privs_4)))
def lw_tbl : List Cond := k2_sels lw_privs ++ tables_1
theorem lw_privs_ok : ∀ q ∈ lw_privs, lw_okq q := by
  show ∀ q ∈ lw_privs_1 ++ (lw_privs_2 ++ (lw_privs_3 ++ (lw_privs_4))), lw_okq q
  exact List.forall_mem_append.mpr ⟨lw_r1, List.forall_mem_append.mpr ⟨lw_r2, List.forall_mem_append.mpr ⟨lw_r3, lw_r4⟩⟩⟩
end
section
/-! ===== BEGIN words of one list among another's, by their places ===== -/
theorem goodIn_r {big : List Cond} (ws : List Cond) (ps : List Nat) (hp : ws = ps.filterMap (fun i => big[i]?)) (h : ws.all goodWord = true) : GoodIn big ws := by
  intro w hw
  have h1 := List.all_eq_true.mp h w hw
  rw [hp] at hw
  obtain ⟨i, -, hi⟩ := List.mem_filterMap.mp hw
  have hm : w ∈ big := by first | exact List.mem_of_getElem? hi | exact List.getElem?_mem hi
  exact ⟨hm, good_of_word h1⟩
theorem goodIn_app {big a b : List Cond} (ha : GoodIn big a) (hb : GoodIn big b) : GoodIn big (a ++ b) := fun w h => (List.mem_append.mp h).elim (ha w) (hb w)
theorem goodIn_ca {big a b : List Cond} {c : Cond} (ha : GoodIn big (c :: a)) (hb : GoodIn big b) : GoodIn big (c :: (a ++ b)) := fun w h => (List.mem_cons.mp h).elim (fun e => ha w (List.mem_cons.mpr (Or.inl e))) (fun h => (List.mem_append.mp h).elim (fun h => ha w (List.mem_cons.mpr (Or.inr h))) (hb w))
theorem goodIn_sub {big ws : List Cond} (hm : ∀ w ∈ ws, w ∈ big) (h : ws.all goodWord = true) : GoodIn big ws := fun w hw => ⟨hm w hw, good_of_word (List.all_eq_true.mp h w hw)⟩
/-! ===== END ===== -/

/-! ===== BEGIN exceptions that leave a method, and their catching by the caller (launches without stack traces) ===== -/
section VXA
/-! The laws vx_back, vx_callV, vx_callS, vx_callSW, vx_throw0, vx_throwS follow proofs of the library, with one case more: JvmDerived/Free/Laws.lean (Back.of_free), Shelf42/LK1.lean (callV, callS), Shelf/KitTraced.lean (throwNew0V, throwNewS). -/

/-- where a method has thrown q: the class by its name, the cell, what was written, the world -/
def vx_T (XC : String → State → State → Prop) (st : State) (q : Addr) (t : State) (mc ms : Nat) (free : Addr → Prop) : Prop :=
  ∃ (E : String) (ce : Cell) (L : List Loc), XC E st t ∧ t.heap[q]? = some ce ∧ ce.vm = .none ∧ st.vm.findClass E = some ce.cls ∧ st.WarmedH t.vm ∧ st.sameButNew ({ t with vm := st.vm } : State) L mc ms ∧ ∀ z ∈ L, free z.base
def vx_Q (Qc : Array Value → State → Outcome → State → Prop) (XC : String → State → State → Prop) (mc ms : Nat) (free : Addr → Prop) : Array Value → State → Outcome → State → Prop := fun a st o t =>
  (Qc a st o t ∧ ∃ L, FrameEnd st o t L mc ms ∧ ∀ q ∈ L, free q.base) ∨ ∃ q, o = .threw q ∧ vx_T XC st q t mc ms free
/-- a callee that returns or throws -/
def vx_Met (l : Launch) (y : MethodName) (ws : List Cond) (rm : Room) (Pc : Array Value → State → Prop) (Qc : Array Value → State → Outcome → State → Prop) (XC : String → State → State → Prop) (mc ms : Nat) (free : Addr → Prop) : Prop :=
  MetFree l y (headSpec ws rm) Pc (fun _ _ _ _ _ => True) (vx_Q Qc XC mc ms free)
def vx_Post (XC : String → State → State → Prop) (mc ms : Nat) (free : Addr → Prop) : Pt → Array Value → Addr → Pt → Prop := fun A a q B =>
  ∃ (g : JFrame) (mk : MethodId) (t : State) (L : List Loc) (E : String) (ce : Cell), B.U.heap = t.heap ∧ B.U.vm = t.vm ∧ XC E (A.U.calling g mk a) t ∧ t.heap[q]? = some ce ∧ ce.vm = .none ∧ A.U.vm.findClass E = some ce.cls ∧ B.locs = A.locs ++ L ∧ (∀ z ∈ L, free z.base) ∧ B.cells = A.cells + mc ∧ B.slots = A.slots + ms
def vx_Back (l : Launch) (R : Room) (p : Program) (e : Env) (below : List Frame) (s : State) (sargs : Array Value) (y : MethodName) (len W9 : Nat)
    (Pre : Pt → Array Value → Prop) (Post : Pt → Array Value → Option Value → Pt → Prop) (PostX : Pt → Array Value → Addr → Pt → Prop) : Prop :=
  ∀ (m : MethodId) (meth : Method) (c : Code) (A : Pt) (g : JFrame) (ig : Instr) (mk : MethodId) (a : Array Value),
    Stand p l e R s m sargs below meth c A.U A.locs A.cells A.slots → g.method = m → g.locals.size = c.maxLocals → decode c.code g.pc = .ok (ig, len) →
    2 * g.monitorRoom + (g.stack.map fun v => v.category).sum ≤ W9 → A.U.methodNamed? y = some mk → Pre A a →
    (∃ (v : Option Value) (B : Pt), Stand p l e R s m sargs below meth c B.U B.locs B.cells B.slots ∧ Post A a v B ∧
      Steps p.tables e below (doInvoke e (A.U.setTop g) [] mk a).1 (B.U.setTop { g with pc := g.pc + len, stack := v.toList ++ g.stack })) ∨
    (∃ (q : Addr) (B : Pt), Stand p l e R s m sargs below meth c B.U B.locs B.cells B.slots ∧ PostX A a q B ∧
      Steps p.tables e below (doInvoke e (A.U.setTop g) [] mk a).1 ((B.U.setTop g).pushFrame (.throwing q)))
section Payer
variable {l : Launch} {R : Room} {p : Program} {e : Env} {below : List Frame} {s : State} {sargs : Array Value} {y : MethodName} {len W9 : Nat}
theorem vx_back {ws : List Cond} {rm : Room} {Pc : Array Value → State → Prop} {Qc : Array Value → State → Outcome → State → Prop} {XC : String → State → State → Prop} {mc ms : Nat} {free : Addr → Prop} {bytes : ByteArray} {maxL : Nat} {ret : Option FieldType}
    (hM : vx_Met l y ws rm Pc Qc XC mc ms free) (hblind : FrameBlind Pc) (hrc : rm.cells = mc) (hrs : rm.slots = ms)
    (hframes : rm.frames + 1 ≤ R.frames) (hlocals : W9 + (maxL + 11) + rm.locals ≤ R.locals)
    (hws : ∀ w ∈ ws, ∀ a' U, s.WarmedH U.vm → w.before a' U = true) (hcode : Cond.code y bytes maxL ret ∈ ws) (hinit : ∀ a' U, s.WarmedH U.vm → (Cond.initialized y.cls).before a' U = true) :
    vx_Back l R p e below s sargs y len W9 (PreOf R mc ms Pc) (PostOf Qc mc ms free) (vx_Post XC mc ms free) := by
  intro m meth c A g ig mk a X hg hsize hdg hW hn hp
  have h1 : (headSpec ws rm).pre.before a A.U = true := atoms_intro fun w hw => hws w hw _ _ X.warmed
  have h2 : (Cond.code y bytes maxL ret).before a A.U = true := hws _ hcode _ _ X.warmed
  have h3 : (Cond.initialized y.cls).before a A.U = true := hinit _ _ X.warmed
  have h4 : A.cells + (headSpec ws rm).room.cells ≤ R.cells := by rw [show (headSpec ws rm).room.cells = mc from hrc]; exact hp.1
  have h5 : A.slots + (headSpec ws rm).room.slots ≤ R.slots := by rw [show (headSpec ws rm).room.slots = ms from hrs]; exact hp.2.1
  have hPc : Pc a (A.U.calling g mk a) := hblind _ _ _ _ hp.2.2
  obtain ⟨U, Ls, c0, s0⟩ := A
  dsimp only [Pt.U, Pt.locs, Pt.cells, Pt.slots] at h1 h2 h3 h4 h5 X hn hPc ⊢
  obtain ⟨methY, cY, hmY, hcY, -, hlY, -, -, -, -⟩ := Cond.code_spec hn h2
  obtain ⟨kY, hkY, -⟩ := className_of_methodNamed hn
  have hinitY : kY.init = .initialized := Cond.initialized_spec (findClass_of_methodNamed hn) hkY h3
  have h : At U g.method c below := by rw [hg]; exact X.here
  have hlocals9 : W9 + (maxL + 11) + (headSpec ws rm).room.locals ≤ R.locals := hlocals
  have happ : (headSpec ws rm).appliesLoose y e.platform (U.calling g mk a) = true :=
    Spec.appliesLoose_calling (g := g) h hdg hn hkY hinitY
      (X.room_calling (g := g) (R' := (headSpec ws rm).room) hsize hmY hcY hframes (by rw [hlY]; omega) h4 h5) h1
  obtain ⟨mid, hmid⟩ := h.above
  have hfr : (U.setTop g).frames = (.java g :: mid) ++ below := by rw [State.frames_setTop' g h.top, hmid]; rfl
  obtain ⟨o, s₂, hsteps, -, hend, hq⟩ := Steps.callFree hM p X.admits X.cas X.clock (acts := []) hfr happ hPc trivial
  have hq' : vx_Q Qc XC mc ms free a (U.calling g mk a) o s₂ := hq
  rw [State.frames_setTop' g h.top] at hend
  obtain ⟨g₀, hg0⟩ := Option.isSome_iff_exists.mp h.top
  obtain ⟨r, hr⟩ := State.topJava?_eq_some.mp hg0
  have hr' : (({ U with heap := s₂.heap, slotsUsed := s₂.slotsUsed } : State).setVm s₂.vm).frames = .java g₀ :: r := hr
  rcases hq' with ⟨hqc, L, hfe, hL⟩ | ⟨q, rfl, E, ce, L, hx, hce, hcv, hcl, hW₂, hsm, hL⟩
  · obtain ⟨⟨v, rfl⟩, hW₂, e2, q2, q3, q4, q5, q6⟩ := id hfe
    have e3 : s₂ = ({ (U.calling g mk a).setFrames s₂.frames with heap := s₂.heap, slotsUsed := s₂.slotsUsed } : State).setVm s₂.vm := by
      have : s₂ = ({ s₂ with vm := (U.calling g mk a).vm } : State).setVm s₂.vm := rfl
      rw [e2] at this
      exact this
    obtain ⟨c₂, i₂, len₂, hc₂, hd₂, hf₂⟩ := hend
    have hW' : U.WarmedH s₂.vm := hW₂
    have hcc : c₂ = c := by
      have h1 : s₂.code? g.method = U.code? g.method := by
        rw [State.code?_eq, State.code?_eq, hW'.alike.method?]
      exact Option.some.inj (hc₂.symm.trans (h1.trans h.code))
    subst hcc
    have hlen : len₂ = len := by rw [hdg] at hd₂; cases hd₂; rfl
    subst hlen
    have hs₂ : s₂ = (({ U with heap := s₂.heap, slotsUsed := s₂.slotsUsed } : State).setVm s₂.vm).setTop { g with pc := g.pc + len₂, stack := v.toList ++ g.stack } := by
      refine e3.trans ?_
      rw [hf₂, State.calling_eq h.top, State.setFrames_setFrames, State.setTop_of_frames _ hr', hr]
      rfl
    have hsame : U.sameButNew ({ U with heap := s₂.heap, slotsUsed := s₂.slotsUsed } : State) L mc ms := by
      refine ⟨?_, q2, q3, q4, q5, q6⟩
      obtain ⟨t, ht, -⟩ := State.frames_cons hr
      show ({ U with heap := s₂.heap, slotsUsed := s₂.slotsUsed } : State) = { U.setFrames U.frames with heap := s₂.heap, slotsUsed := s₂.slotsUsed }
      rw [State.setFrames_self ht]
    subst hg
    refine Or.inl ⟨v, ⟨(({ U with heap := s₂.heap, slotsUsed := s₂.slotsUsed } : State).setVm s₂.vm), Ls ++ L, c0 + mc, s0 + ms⟩,
      ⟨X.admits, X.cas, X.clock, X.frames, X.room, X.hears, X.method, X.code, (X.here.setHeapUsed s₂.heap s₂.slotsUsed).setVm hW'.alike, X.tail, State.WarmedH.trans X.warmed hW', X.limits, X.bytes, X.same.trans (hsame.setVm s.vm)⟩,
      ⟨g, mk, s₂, L, rfl, rfl, hqc, rfl, hL, rfl, rfl⟩, ?_⟩
    show Steps p.tables e below _ ((({ U with heap := s₂.heap, slotsUsed := s₂.slotsUsed } : State).setVm s₂.vm).setTop { g with pc := g.pc + len₂, stack := v.toList ++ g.stack })
    rw [← hs₂]
    exact hsteps
  · obtain ⟨e2, q2, q3, q4, q5, q6⟩ := id hsm
    have e3 : s₂ = ({ (U.calling g mk a).setFrames s₂.frames with heap := s₂.heap, slotsUsed := s₂.slotsUsed } : State).setVm s₂.vm := by
      have : s₂ = ({ s₂ with vm := (U.calling g mk a).vm } : State).setVm s₂.vm := rfl
      rw [e2] at this
      exact this
    have hf₂ : s₂.frames = .throwing q :: .java g :: U.frames.tail := hend
    have hW' : U.WarmedH s₂.vm := hW₂
    have hs₂ : s₂ = ((({ U with heap := s₂.heap, slotsUsed := s₂.slotsUsed } : State).setVm s₂.vm).setTop g).pushFrame (.throwing q) := by
      refine e3.trans ?_
      rw [hf₂, State.calling_eq h.top, State.setFrames_setFrames, State.pushFrame, State.frames_setTop _ hr', State.setTop_of_frames _ hr', State.setFrames_setFrames, hr]
      rfl
    have hsame : U.sameButNew ({ U with heap := s₂.heap, slotsUsed := s₂.slotsUsed } : State) L mc ms := by
      refine ⟨?_, q2, q3, q4, q5, q6⟩
      obtain ⟨t, ht, -⟩ := State.frames_cons hr
      show ({ U with heap := s₂.heap, slotsUsed := s₂.slotsUsed } : State) = { U.setFrames U.frames with heap := s₂.heap, slotsUsed := s₂.slotsUsed }
      rw [State.setFrames_self ht]
    subst hg
    refine Or.inr ⟨q, ⟨(({ U with heap := s₂.heap, slotsUsed := s₂.slotsUsed } : State).setVm s₂.vm), Ls ++ L, c0 + mc, s0 + ms⟩,
      ⟨X.admits, X.cas, X.clock, X.frames, X.room, X.hears, X.method, X.code, (X.here.setHeapUsed s₂.heap s₂.slotsUsed).setVm hW'.alike, X.tail, State.WarmedH.trans X.warmed hW', X.limits, X.bytes, X.same.trans (hsame.setVm s.vm)⟩,
      ⟨g, mk, s₂, L, E, ce, rfl, rfl, hx, hce, hcv, hcl, rfl, hL, rfl, rfl⟩, ?_⟩
    show Steps p.tables e below _ (((({ U with heap := s₂.heap, slotsUsed := s₂.slotsUsed } : State).setVm s₂.vm).setTop g).pushFrame (.throwing q))
    rw [← hs₂]
    exact hsteps
end Payer
section Calls
variable {p : Program} {l : Launch} {e : Env} {R : Room} {s : State} {m : MethodId} {args : Array Value} {below : List Frame} {meth : Method} {c : Code} {T : State} {locs : List Loc} {cells slots : Nat}
theorem vx_callV (X : Stand p l e R s m args below meth c T locs cells slots) (hexec : p.tables.exec = Jvm.exec) {own C : String} {index : Nat} {y : MethodName} {bytes : ByteArray} {maxL : Nat} {ret : Option FieldType}
    (hown : s.vm.findClass own = some m.cls) (hlink : (Cond.methodLink own index y).before args s = true) (hinst : (Cond.instanceMethod y).before args s = true) (hsel : (Cond.selects C y y).before args s = true)
    (hcode : (Cond.code y bytes maxL ret).before args s = true) (hy : y.cls ≠ "java/lang/invoke/MethodHandle" ∧ y.cls ≠ "java/lang/invoke/VarHandle")
    {W9 : Nat} {Pre : Pt → Array Value → Prop} {Post : Pt → Array Value → Option Value → Pt → Prop} {PostX : Pt → Array Value → Addr → Pt → Prop} (hK : vx_Back l R p e below s args y 3 W9 Pre Post PostX)
    {b : Addr} {cellB : Cell} (hcell : T.heap[b]? = some cellB) (hobj : cellB.vm.isStatics = false) (hcls : s.vm.findClass C = some cellB.cls)
    {g : JFrame} (hg : g.method = m) (hsize : g.locals.size = c.maxLocals) {argsL rest : List Value} (hlen : ∀ sig, parseMethodDescriptor y.desc = some sig → argsL.length = sig.parameters.length)
    (hstack : g.stack = argsL.reverse ++ .ref b :: rest) (hW : 2 * g.monitorRoom + (rest.map fun v => v.category).sum ≤ W9) (hdg : decode c.code g.pc = .ok (.invokevirtual index, 3))
    (hpre : ∀ vm₁, s.WarmedH vm₁ → Pre ⟨T.setVm vm₁, locs, cells, slots⟩ (Value.ref b :: argsL).toArray) :
    (∃ (v : Option Value) (vm₁ : Vm) (B : Pt), s.WarmedH vm₁ ∧ Stand p l e R s m args below meth c B.U B.locs B.cells B.slots ∧ Post ⟨T.setVm vm₁, locs, cells, slots⟩ (Value.ref b :: argsL).toArray v B ∧
      ∀ target, Steps p.tables e below (B.U.setTop { g with pc := g.pc + 3, stack := v.toList ++ rest }) target → Steps p.tables e below (T.setTop g) target) ∨
    (∃ (q : Addr) (vm₁ : Vm) (B : Pt), s.WarmedH vm₁ ∧ Stand p l e R s m args below meth c B.U B.locs B.cells B.slots ∧ PostX ⟨T.setVm vm₁, locs, cells, slots⟩ (Value.ref b :: argsL).toArray q B ∧
      Steps p.tables e below (T.setTop g) ((B.U.setTop { g with stack := rest }).pushFrame (.throwing q))) := by
  obtain ⟨mk, methM, hnamed, hmethM, hstM, habM⟩ := Cond.instanceMethod_spec hinst
  obtain ⟨methM', cM, hmethM', -, -, -, -, -, -, hsigM⟩ := Cond.code_spec hnamed hcode
  cases hmethM.symm.trans hmethM'
  obtain ⟨c2, r2, m2, q1, q2, q3, q4, kP, hkP, hkPi⟩ := Cond.selects_spec hsel
  cases hcls.symm.trans q1
  cases (State.methodFound?_of_named hnamed hy).symm.trans q2
  cases hnamed.symm.trans q3
  have hselP : selectMethod e.platform s.vm cellB.cls mk = .method mk := by rw [Launch.admits_selectMethod X.admits]; exact q4
  obtain ⟨vm₁, X₁, hstep₁⟩ := X.invokevirtual hexec hown hlink hnamed hmethM hstM hkP hkPi hy (a := b) (cell := cellB) hcell
    (fun z h => by rw [h] at hobj; cases hobj) hselP hmethM habM hkP hkPi (g := g) hg (argsL := argsL) (rest := rest) (hlen _ hsigM) hstack hdg
  rcases hK m meth c ⟨T.setVm vm₁, locs, cells, slots⟩ { g with stack := rest } (.invokevirtual index) mk (Value.ref b :: argsL).toArray X₁ hg hsize hdg hW (X₁.named hnamed) (hpre vm₁ X₁.warmed) with ⟨v, B, X', hpost, hsteps⟩ | ⟨q, B, X', hpost, hsteps⟩
  · exact Or.inl ⟨v, vm₁, B, X₁.warmed, X', hpost, fun target h => hstep₁ _ fun acts => by rw [doInvoke_state]; exact hsteps.trans h⟩
  · exact Or.inr ⟨q, vm₁, B, X₁.warmed, X', hpost, hstep₁ _ fun acts => by rw [doInvoke_state]; exact hsteps⟩
theorem vx_callS (X : Stand p l e R s m args below meth c T locs cells slots) (hexec : p.tables.exec = Jvm.exec) {own : String} {index : Nat} {y : MethodName} {bytes : ByteArray} {maxL : Nat} {ret : Option FieldType}
    (hown : s.vm.findClass own = some m.cls) (hlink : (Cond.methodLink own index y).before args s = true) (hstat : (Cond.static y).before args s = true) (hinit : (Cond.initialized y.cls).before args s = true)
    (hcode : (Cond.code y bytes maxL ret).before args s = true) (hy : y.cls ≠ "java/lang/invoke/MethodHandle" ∧ y.cls ≠ "java/lang/invoke/VarHandle")
    {W9 : Nat} {Pre : Pt → Array Value → Prop} {Post : Pt → Array Value → Option Value → Pt → Prop} {PostX : Pt → Array Value → Addr → Pt → Prop} (hK : vx_Back l R p e below s args y 3 W9 Pre Post PostX)
    {g : JFrame} (hg : g.method = m) (hsize : g.locals.size = c.maxLocals) {argsL rest : List Value} (hlen : ∀ sig, parseMethodDescriptor y.desc = some sig → argsL.length = sig.parameters.length)
    (hstack : g.stack = argsL.reverse ++ rest) (hW : 2 * g.monitorRoom + (rest.map fun v => v.category).sum ≤ W9) (hdg : decode c.code g.pc = .ok (.invokestatic index, 3))
    (hpre : ∀ vm₁, s.WarmedH vm₁ → Pre ⟨T.setVm vm₁, locs, cells, slots⟩ argsL.toArray) :
    (∃ (v : Option Value) (vm₁ : Vm) (B : Pt), s.WarmedH vm₁ ∧ Stand p l e R s m args below meth c B.U B.locs B.cells B.slots ∧ Post ⟨T.setVm vm₁, locs, cells, slots⟩ argsL.toArray v B ∧
      ∀ target, Steps p.tables e below (B.U.setTop { g with pc := g.pc + 3, stack := v.toList ++ rest }) target → Steps p.tables e below (T.setTop g) target) ∨
    (∃ (q : Addr) (vm₁ : Vm) (B : Pt), s.WarmedH vm₁ ∧ Stand p l e R s m args below meth c B.U B.locs B.cells B.slots ∧ PostX ⟨T.setVm vm₁, locs, cells, slots⟩ argsL.toArray q B ∧
      Steps p.tables e below (T.setTop g) ((B.U.setTop { g with stack := rest }).pushFrame (.throwing q))) := by
  obtain ⟨mk, hnamed⟩ := Cond.code_named hcode
  obtain ⟨methM, cM, hmethM, -, -, -, -, -, -, hsigM⟩ := Cond.code_spec hnamed hcode
  have hstatic : methM.isStatic = true := Cond.static_spec hnamed hmethM hstat
  obtain ⟨kP, hkP, -⟩ := className_of_methodNamed hnamed
  have hinitP : kP.init = .initialized := Cond.initialized_spec (findClass_of_methodNamed hnamed) hkP hinit
  obtain ⟨vm₁, X₁, hstep₁⟩ := X.invokestatic hexec hown hlink hnamed hmethM hstatic hkP hinitP hy (g := g) hg (argsL := argsL) (rest := rest) (hlen _ hsigM) hstack hdg
  rcases hK m meth c ⟨T.setVm vm₁, locs, cells, slots⟩ { g with stack := rest } (.invokestatic index) mk argsL.toArray X₁ hg hsize hdg hW (X₁.named hnamed) (hpre vm₁ X₁.warmed) with ⟨v, B, X', hpost, hsteps⟩ | ⟨q, B, X', hpost, hsteps⟩
  · exact Or.inl ⟨v, vm₁, B, X₁.warmed, X', hpost, fun target h => hstep₁ _ fun acts => by rw [doInvoke_state]; exact hsteps.trans h⟩
  · exact Or.inr ⟨q, vm₁, B, X₁.warmed, X', hpost, hstep₁ _ fun acts => by rw [doInvoke_state]; exact hsteps⟩
end Calls
theorem vx_cls {s : State} {T : State} {vm₁ : Vm} {E : String} {k : ClassId} (hW : s.WarmedH vm₁) (h : (T.setVm vm₁).vm.findClass E = some k) : s.vm.findClass E = some k := by
  have h1 : vm₁.findClass E = some k := h
  rw [hW.alike.findClass] at h1
  exact h1
/-- the method's frame g, with q thrown over it -/
def vx_W (p : Program) (l : Launch) (e : Env) (R : Room) (s : State) (m : MethodId) (args : Array Value) (below : List Frame) (meth : Method) (c : Code) (H : Heap) (locs : List Loc) (cells slots : Nat) (Q : State → Prop) (g : JFrame) (q : Addr) : Prop :=
  ∀ T : State, T.heap = H → Stand p l e R s m args below meth c T locs cells slots → ∃ t, Steps p.tables e below ((T.setTop g).pushFrame (.throwing q)) t ∧ Q t
def vx_Run (p : Program) (l : Launch) (e : Env) (R : Room) (s : State) (m : MethodId) (args : Array Value) (below : List Frame) (meth : Method) (c : Code) (H : Heap) (locs : List Loc) (cells slots mc ms : Nat) (g : JFrame) (rest : List Value) (Qa : State → Outcome → State → Prop) (XC : String → State → State → Prop) (free : Addr → Prop) : Prop :=
  ∀ T : State, T.heap = H → Stand p l e R s m args below meth c T locs cells slots →
    (∃ (v : Option Value) (st₀ t T' : State) (L : List Loc), st₀.heap = H ∧ Stand p l e R s m args below meth c T' (locs ++ L) (cells + mc) (slots + ms) ∧ (∀ q ∈ L, free q.base) ∧ T'.heap = t.heap ∧ T'.vm = t.vm ∧ Qa st₀ (.returned v) t ∧
      Goes p e below T g T' { g with pc := g.pc + 3, stack := v.toList ++ rest }) ∨
    (∃ (q : Addr) (st₀ t T' : State) (L : List Loc) (E : String) (ce : Cell), st₀.heap = H ∧ Stand p l e R s m args below meth c T' (locs ++ L) (cells + mc) (slots + ms) ∧ (∀ z ∈ L, free z.base) ∧ T'.heap = t.heap ∧ T'.vm = t.vm ∧ XC E st₀ t ∧ t.heap[q]? = some ce ∧ ce.vm = .none ∧ s.vm.findClass E = some ce.cls ∧
      Steps p.tables e below (T.setTop g) ((T'.setTop { g with stack := rest }).pushFrame (.throwing q)))
def vx_X {S : Type} (px : S → Prop) (B : String → S → State → Prop) (A : Nat → Prop) : String → State → State → Prop := fun E st t => ∃ u : S, px u ∧ B E u t ∧ va_F A st t
section Runs
variable {p : Program} {l : Launch} {e : Env} {R : Room} {s : State} {m : MethodId} {args : Array Value} {below : List Frame} {meth : Method} {c : Code} {H : Heap} {locs : List Loc} {cells slots : Nat}
variable {y : MethodName} {bytes cc : ByteArray} {maxL nL mc ms n index : Nat} {ret : Option FieldType} {ws : List Cond} {rm : Room} {Pc : Array Value → State → Prop} {Qc : Array Value → State → Outcome → State → Prop} {XC : String → State → State → Prop} {free : Addr → Prop} {Ts : List Cond} {own C : String} {b : Addr} {As rest : List Value} {g : JFrame}
theorem vx_callBack (cb : CallB R s args own index y bytes maxL ret ws rm mc ms n) (hM : vx_Met l y ws rm Pc Qc XC mc ms free) (hbl : FrameBlind Pc) : vx_Back l R p e below s args y 3 8 (PreOf R mc ms Pc) (PostOf Qc mc ms free) (vx_Post XC mc ms free) := by
  obtain ⟨hrc, hrs, hfr, hlo, hws, hcw, -, hini, -⟩ := cb
  exact vx_back (bytes := bytes) (maxL := maxL) (ret := ret) hM hbl hrc hrs hfr hlo hws hcw (fun a' U hW => word_at hW (Or.inl (by first | rfl | simp [Cond.onTables, Cond.keeps, Cond.steady])) hini)
theorem vx_runV (S : CallFix p m c cc nL s args Ts own) (hM : vx_Met l y ws rm Pc Qc XC mc ms free) (cw : CallW R s args own C index y bytes maxL ret ws rm mc ms n) (hp : PreV s H C b Pc As)
    (hg : g.method = m) (hn : As.length = n) (hsize : g.locals.size = nL) (hstack : g.stack = As.reverse ++ .ref b :: rest) (hW : 2 * g.monitorRoom + (rest.map fun v => v.category).sum ≤ 8) (hdg : decode cc g.pc = .ok (.invokevirtual index, 3)) (hf : cells + mc ≤ R.cells ∧ slots + ms ≤ R.slots) :
    vx_Run p l e R s m args below meth c H locs cells slots mc ms g rest (Qc (Value.ref b :: As).toArray) XC free := by
  have hK : vx_Back l R p e below s args y 3 8 (PreOf R mc ms Pc) (PostOf Qc mc ms free) (vx_Post XC mc ms free) := vx_callBack cw.1 hM hp.1
  obtain ⟨⟨-, -, -, -, -, -, hcode, -, hy, hlen, hl⟩, hin, hse⟩ := cw
  obtain ⟨hx, hb, hml, ho, -⟩ := S
  obtain ⟨-, ⟨cellB, hcB, hoB, hclB⟩, hPc⟩ := hp
  intro T hT X
  rcases vx_callV X hx (C := C) (bytes := bytes) (maxL := maxL) (ret := ret) ho hl hin hse hcode hy hK (by rw [hT]; exact hcB) hoB hclB hg (hsize.trans hml.symm) (argsL := As) (rest := rest) (fun sig h => hn.trans (hlen sig h)) hstack hW (by rw [hb]; exact hdg)
    (fun vm₁ hW₁ => ⟨hf.1, hf.2, hPc (T.setVm vm₁) hT hW₁⟩) with ⟨v, vm₁, ⟨U', l2, c2, s2⟩, hW₁, X', ⟨g', mk, t, L, e1, e2, hq, h1, hL, h2, h3⟩, st⟩ | ⟨q, vm₁, ⟨U', l2, c2, s2⟩, hW₁, X', ⟨g', mk, t, L, E, ce, e1, e2, hq, hce, hcv, hcl, h1, hL, h2, h3⟩, st⟩
  · dsimp only [Pt.U, Pt.locs, Pt.cells, Pt.slots] at X' e1 e2 h1 h2 h3 st
    subst h1; subst h2; subst h3
    exact Or.inl ⟨v, (T.setVm vm₁).calling g' mk (Value.ref b :: As).toArray, t, U', L, hT, X', hL, e1, e2, hq, st⟩
  · dsimp only [Pt.U, Pt.locs, Pt.cells, Pt.slots] at X' e1 e2 h1 h2 h3 st hcl
    subst h1; subst h2; subst h3
    exact Or.inr ⟨q, (T.setVm vm₁).calling g' mk (Value.ref b :: As).toArray, t, U', L, E, ce, hT, X', hL, e1, e2, hq, hce, hcv, vx_cls hW₁ hcl, st⟩
theorem vx_runS (S : CallFix p m c cc nL s args Ts own) (hM : vx_Met l y ws rm Pc Qc XC mc ms free) (cw : CallB R s args own index y bytes maxL ret ws rm mc ms n ∧ (Cond.static y).before args s = true) (hp : PreS s H Pc As)
    (hg : g.method = m) (hn : As.length = n) (hsize : g.locals.size = nL) (hstack : g.stack = As.reverse ++ rest) (hW : 2 * g.monitorRoom + (rest.map fun v => v.category).sum ≤ 8) (hdg : decode cc g.pc = .ok (.invokestatic index, 3)) (hf : cells + mc ≤ R.cells ∧ slots + ms ≤ R.slots) :
    vx_Run p l e R s m args below meth c H locs cells slots mc ms g rest (Qc As.toArray) XC free := by
  have hK : vx_Back l R p e below s args y 3 8 (PreOf R mc ms Pc) (PostOf Qc mc ms free) (vx_Post XC mc ms free) := vx_callBack cw.1 hM hp.1
  obtain ⟨⟨-, -, -, -, -, -, hcode, hini, hy, hlen, hl⟩, hstt⟩ := cw
  obtain ⟨hx, hb, hml, ho, -⟩ := S
  intro T hT X
  rcases vx_callS X hx (bytes := bytes) (maxL := maxL) (ret := ret) ho hl hstt hini hcode hy hK hg (hsize.trans hml.symm) (argsL := As) (rest := rest) (fun sig h => hn.trans (hlen sig h)) hstack hW (by rw [hb]; exact hdg)
    (fun vm₁ hW₁ => ⟨hf.1, hf.2, hp.2 (T.setVm vm₁) hT hW₁⟩) with ⟨v, vm₁, ⟨U', l2, c2, s2⟩, hW₁, X', ⟨g', mk, t, L, e1, e2, hq, h1, hL, h2, h3⟩, st⟩ | ⟨q, vm₁, ⟨U', l2, c2, s2⟩, hW₁, X', ⟨g', mk, t, L, E, ce, e1, e2, hq, hce, hcv, hcl, h1, hL, h2, h3⟩, st⟩
  · dsimp only [Pt.U, Pt.locs, Pt.cells, Pt.slots] at X' e1 e2 h1 h2 h3 st
    subst h1; subst h2; subst h3
    exact Or.inl ⟨v, (T.setVm vm₁).calling g' mk As.toArray, t, U', L, hT, X', hL, e1, e2, hq, st⟩
  · dsimp only [Pt.U, Pt.locs, Pt.cells, Pt.slots] at X' e1 e2 h1 h2 h3 st hcl
    subst h1; subst h2; subst h3
    exact Or.inr ⟨q, (T.setVm vm₁).calling g' mk As.toArray, t, U', L, E, ce, hT, X', hL, e1, e2, hq, hce, hcv, vx_cls hW₁ hcl, st⟩
end Runs
section Rows
variable {p : Program} {l : Launch} {e : Env} {R : Room} {s : State} {m : MethodId} {args : Array Value} {below : List Frame} {meth : Method} {c : Code} {H : Heap} {locs : List Loc} {cells slots : Nat} {Q : State → Prop}
variable {mc ms : Nat} {free : Addr → Prop} {A0 A1 : Nat → Prop} {H0 : Heap} {a : Array Value} {pc : Nat} {ls : Array Slot} {st0 rest : List Value}
theorem vx_keep {st₀ t T' : State} {L : List Loc} (h0 : st₀.heap = H) (e1 : T'.heap = t.heap) (hS : va_S A0 H0 H locs) (hA : ∀ q, q < H.size → A1 q → A0 q) (hf : ∀ q, free q → A0 q) (hL : ∀ q ∈ L, free q.base) (hF : va_F A1 st₀ t) :
    H.size ≤ T'.heap.size ∧ (∀ q : Nat, q < H.size → ¬ A1 q → T'.heap[q]? = H[q]?) ∧ va_S A0 H0 T'.heap (locs ++ L) := by
  obtain ⟨hz, hk⟩ := hF
  rw [h0] at hz hk
  exact ⟨by rw [e1]; exact hz, fun q h1 h2 => by rw [e1]; exact hk q h1 h2,
    ⟨Nat.le_trans hS.1 (by rw [e1]; exact hz), fun q h1 h2 => by rw [e1, hk q (Nat.lt_of_lt_of_le h1 hS.1) (fun z => h2 (hA q (Nat.lt_of_lt_of_le h1 hS.1) z))]; exact hS.2.1 q h1 h2, fun q hq => by
      rcases List.mem_append.mp hq with h | h
      · exact hS.2.2 q h
      · exact hf _ (hL q h)⟩⟩
theorem vx_calli {S SX : Type} {post : Int32 → S → Prop} {px : SX → Prop} {B : S → State → Prop} {BX : String → SX → State → Prop} {AX : Nat → Prop} (hr : vx_Run p l e R s m args below meth c H locs cells slots mc ms (F0 m pc ls st0) rest (va_Qi post B A1 a) (vx_X px BX AX) free) (hS : va_S A0 H0 H locs) (hA : ∀ q, q < H.size → A1 q → A0 q) (hf : ∀ q, free q → A0 q) (hAX : ∀ q, q < H.size → AX q → A0 q)
    (kx : ∀ (E : String) (ce : Cell) (q9 : Addr) (u : SX) (t : State) (H1 : Heap) (locs1 : List Loc), t.heap = H1 → s.vm.Alike t.vm → px u → BX E u t → H.size ≤ H1.size → (∀ q : Nat, q < H.size → ¬ AX q → H1[q]? = H[q]?) → va_S A0 H0 H1 locs1 → H1[q9]? = some ce → ce.vm = .none → s.vm.findClass E = some ce.cls → vx_W p l e R s m args below meth c H1 locs1 (cells + mc) (slots + ms) Q (F0 m pc ls rest) q9)
    (kk : ∀ (r : Int32) (u : S) (t : State) (H1 : Heap) (locs1 : List Loc), t.heap = H1 → s.vm.Alike t.vm → post r u → B u t → H.size ≤ H1.size → (∀ q : Nat, q < H.size → ¬ A1 q → H1[q]? = H[q]?) → va_S A0 H0 H1 locs1 → W p l e R s m args below meth c H1 locs1 (cells + mc) (slots + ms) Q (F0 m (pc + 3) ls (.int r :: rest))) : W p l e R s m args below meth c H locs cells slots Q (F0 m pc ls st0) := by
  intro T hT X
  rcases hr T hT X with ⟨v, st₀, t, T', L, h0, X', hL, e1, e2, ⟨⟨r, u, hv, hp, hb⟩, hF⟩, st⟩ | ⟨q, st₀, t, T', L, E, ce, h0, X', hL, e1, e2, ⟨u, hp, hb, hF⟩, hce, hcv, hcl, st⟩
  · cases hv
    obtain ⟨k1, k2, k3⟩ := vx_keep h0 e1 hS hA hf hL hF
    obtain ⟨t2, a1, b1⟩ := kk r u t T'.heap (locs ++ L) e1.symm (by rw [← e2]; exact X'.warmed.alike) hp hb k1 k2 k3 T' rfl X'
    exact ⟨t2, st t2 a1, b1⟩
  · obtain ⟨k1, k2, k3⟩ := vx_keep h0 e1 hS hAX hf hL hF
    obtain ⟨t2, a1, b1⟩ := kx E ce q u t T'.heap (locs ++ L) e1.symm (by rw [← e2]; exact X'.warmed.alike) hp hb k1 k2 k3 (by rw [e1]; exact hce) hcv hcl T' rfl X'
    exact ⟨t2, st.trans a1, b1⟩
theorem vx_calll {S SX : Type} {post : Int64 → S → Prop} {px : SX → Prop} {B : S → State → Prop} {BX : String → SX → State → Prop} {AX : Nat → Prop} (hr : vx_Run p l e R s m args below meth c H locs cells slots mc ms (F0 m pc ls st0) rest (va_Ql post B A1 a) (vx_X px BX AX) free) (hS : va_S A0 H0 H locs) (hA : ∀ q, q < H.size → A1 q → A0 q) (hf : ∀ q, free q → A0 q) (hAX : ∀ q, q < H.size → AX q → A0 q)
    (kx : ∀ (E : String) (ce : Cell) (q9 : Addr) (u : SX) (t : State) (H1 : Heap) (locs1 : List Loc), t.heap = H1 → s.vm.Alike t.vm → px u → BX E u t → H.size ≤ H1.size → (∀ q : Nat, q < H.size → ¬ AX q → H1[q]? = H[q]?) → va_S A0 H0 H1 locs1 → H1[q9]? = some ce → ce.vm = .none → s.vm.findClass E = some ce.cls → vx_W p l e R s m args below meth c H1 locs1 (cells + mc) (slots + ms) Q (F0 m pc ls rest) q9)
    (kk : ∀ (r : Int64) (u : S) (t : State) (H1 : Heap) (locs1 : List Loc), t.heap = H1 → s.vm.Alike t.vm → post r u → B u t → H.size ≤ H1.size → (∀ q : Nat, q < H.size → ¬ A1 q → H1[q]? = H[q]?) → va_S A0 H0 H1 locs1 → W p l e R s m args below meth c H1 locs1 (cells + mc) (slots + ms) Q (F0 m (pc + 3) ls (.long r :: rest))) : W p l e R s m args below meth c H locs cells slots Q (F0 m pc ls st0) := by
  intro T hT X
  rcases hr T hT X with ⟨v, st₀, t, T', L, h0, X', hL, e1, e2, ⟨⟨r, u, hv, hp, hb⟩, hF⟩, st⟩ | ⟨q, st₀, t, T', L, E, ce, h0, X', hL, e1, e2, ⟨u, hp, hb, hF⟩, hce, hcv, hcl, st⟩
  · cases hv
    obtain ⟨k1, k2, k3⟩ := vx_keep h0 e1 hS hA hf hL hF
    obtain ⟨t2, a1, b1⟩ := kk r u t T'.heap (locs ++ L) e1.symm (by rw [← e2]; exact X'.warmed.alike) hp hb k1 k2 k3 T' rfl X'
    exact ⟨t2, st t2 a1, b1⟩
  · obtain ⟨k1, k2, k3⟩ := vx_keep h0 e1 hS hAX hf hL hF
    obtain ⟨t2, a1, b1⟩ := kx E ce q u t T'.heap (locs ++ L) e1.symm (by rw [← e2]; exact X'.warmed.alike) hp hb k1 k2 k3 (by rw [e1]; exact hce) hcv hcl T' rfl X'
    exact ⟨t2, st.trans a1, b1⟩
theorem vx_callf {S SX : Type} {post : UInt32 → S → Prop} {px : SX → Prop} {B : S → State → Prop} {BX : String → SX → State → Prop} {AX : Nat → Prop} (hr : vx_Run p l e R s m args below meth c H locs cells slots mc ms (F0 m pc ls st0) rest (va_Qf post B A1 a) (vx_X px BX AX) free) (hS : va_S A0 H0 H locs) (hA : ∀ q, q < H.size → A1 q → A0 q) (hf : ∀ q, free q → A0 q) (hAX : ∀ q, q < H.size → AX q → A0 q)
    (kx : ∀ (E : String) (ce : Cell) (q9 : Addr) (u : SX) (t : State) (H1 : Heap) (locs1 : List Loc), t.heap = H1 → s.vm.Alike t.vm → px u → BX E u t → H.size ≤ H1.size → (∀ q : Nat, q < H.size → ¬ AX q → H1[q]? = H[q]?) → va_S A0 H0 H1 locs1 → H1[q9]? = some ce → ce.vm = .none → s.vm.findClass E = some ce.cls → vx_W p l e R s m args below meth c H1 locs1 (cells + mc) (slots + ms) Q (F0 m pc ls rest) q9)
    (kk : ∀ (r : UInt32) (u : S) (t : State) (H1 : Heap) (locs1 : List Loc), t.heap = H1 → s.vm.Alike t.vm → post r u → B u t → H.size ≤ H1.size → (∀ q : Nat, q < H.size → ¬ A1 q → H1[q]? = H[q]?) → va_S A0 H0 H1 locs1 → W p l e R s m args below meth c H1 locs1 (cells + mc) (slots + ms) Q (F0 m (pc + 3) ls (.float r :: rest))) : W p l e R s m args below meth c H locs cells slots Q (F0 m pc ls st0) := by
  intro T hT X
  rcases hr T hT X with ⟨v, st₀, t, T', L, h0, X', hL, e1, e2, ⟨⟨r, u, hv, hp, hb⟩, hF⟩, st⟩ | ⟨q, st₀, t, T', L, E, ce, h0, X', hL, e1, e2, ⟨u, hp, hb, hF⟩, hce, hcv, hcl, st⟩
  · cases hv
    obtain ⟨k1, k2, k3⟩ := vx_keep h0 e1 hS hA hf hL hF
    obtain ⟨t2, a1, b1⟩ := kk r u t T'.heap (locs ++ L) e1.symm (by rw [← e2]; exact X'.warmed.alike) hp hb k1 k2 k3 T' rfl X'
    exact ⟨t2, st t2 a1, b1⟩
  · obtain ⟨k1, k2, k3⟩ := vx_keep h0 e1 hS hAX hf hL hF
    obtain ⟨t2, a1, b1⟩ := kx E ce q u t T'.heap (locs ++ L) e1.symm (by rw [← e2]; exact X'.warmed.alike) hp hb k1 k2 k3 (by rw [e1]; exact hce) hcv hcl T' rfl X'
    exact ⟨t2, st.trans a1, b1⟩
theorem vx_calld {S SX : Type} {post : UInt64 → S → Prop} {px : SX → Prop} {B : S → State → Prop} {BX : String → SX → State → Prop} {AX : Nat → Prop} (hr : vx_Run p l e R s m args below meth c H locs cells slots mc ms (F0 m pc ls st0) rest (va_Qd post B A1 a) (vx_X px BX AX) free) (hS : va_S A0 H0 H locs) (hA : ∀ q, q < H.size → A1 q → A0 q) (hf : ∀ q, free q → A0 q) (hAX : ∀ q, q < H.size → AX q → A0 q)
    (kx : ∀ (E : String) (ce : Cell) (q9 : Addr) (u : SX) (t : State) (H1 : Heap) (locs1 : List Loc), t.heap = H1 → s.vm.Alike t.vm → px u → BX E u t → H.size ≤ H1.size → (∀ q : Nat, q < H.size → ¬ AX q → H1[q]? = H[q]?) → va_S A0 H0 H1 locs1 → H1[q9]? = some ce → ce.vm = .none → s.vm.findClass E = some ce.cls → vx_W p l e R s m args below meth c H1 locs1 (cells + mc) (slots + ms) Q (F0 m pc ls rest) q9)
    (kk : ∀ (r : UInt64) (u : S) (t : State) (H1 : Heap) (locs1 : List Loc), t.heap = H1 → s.vm.Alike t.vm → post r u → B u t → H.size ≤ H1.size → (∀ q : Nat, q < H.size → ¬ A1 q → H1[q]? = H[q]?) → va_S A0 H0 H1 locs1 → W p l e R s m args below meth c H1 locs1 (cells + mc) (slots + ms) Q (F0 m (pc + 3) ls (.double r :: rest))) : W p l e R s m args below meth c H locs cells slots Q (F0 m pc ls st0) := by
  intro T hT X
  rcases hr T hT X with ⟨v, st₀, t, T', L, h0, X', hL, e1, e2, ⟨⟨r, u, hv, hp, hb⟩, hF⟩, st⟩ | ⟨q, st₀, t, T', L, E, ce, h0, X', hL, e1, e2, ⟨u, hp, hb, hF⟩, hce, hcv, hcl, st⟩
  · cases hv
    obtain ⟨k1, k2, k3⟩ := vx_keep h0 e1 hS hA hf hL hF
    obtain ⟨t2, a1, b1⟩ := kk r u t T'.heap (locs ++ L) e1.symm (by rw [← e2]; exact X'.warmed.alike) hp hb k1 k2 k3 T' rfl X'
    exact ⟨t2, st t2 a1, b1⟩
  · obtain ⟨k1, k2, k3⟩ := vx_keep h0 e1 hS hAX hf hL hF
    obtain ⟨t2, a1, b1⟩ := kx E ce q u t T'.heap (locs ++ L) e1.symm (by rw [← e2]; exact X'.warmed.alike) hp hb k1 k2 k3 (by rw [e1]; exact hce) hcv hcl T' rfl X'
    exact ⟨t2, st.trans a1, b1⟩
theorem vx_callv {S SX : Type} {post : S → Prop} {px : SX → Prop} {B : S → State → Prop} {BX : String → SX → State → Prop} {AX : Nat → Prop} (hr : vx_Run p l e R s m args below meth c H locs cells slots mc ms (F0 m pc ls st0) rest (va_Qv post B A1 a) (vx_X px BX AX) free) (hS : va_S A0 H0 H locs) (hA : ∀ q, q < H.size → A1 q → A0 q) (hf : ∀ q, free q → A0 q) (hAX : ∀ q, q < H.size → AX q → A0 q)
    (kx : ∀ (E : String) (ce : Cell) (q9 : Addr) (u : SX) (t : State) (H1 : Heap) (locs1 : List Loc), t.heap = H1 → s.vm.Alike t.vm → px u → BX E u t → H.size ≤ H1.size → (∀ q : Nat, q < H.size → ¬ AX q → H1[q]? = H[q]?) → va_S A0 H0 H1 locs1 → H1[q9]? = some ce → ce.vm = .none → s.vm.findClass E = some ce.cls → vx_W p l e R s m args below meth c H1 locs1 (cells + mc) (slots + ms) Q (F0 m pc ls rest) q9)
    (kk : ∀ (u : S) (t : State) (H1 : Heap) (locs1 : List Loc), t.heap = H1 → s.vm.Alike t.vm → post u → B u t → H.size ≤ H1.size → (∀ q : Nat, q < H.size → ¬ A1 q → H1[q]? = H[q]?) → va_S A0 H0 H1 locs1 → W p l e R s m args below meth c H1 locs1 (cells + mc) (slots + ms) Q (F0 m (pc + 3) ls (rest))) : W p l e R s m args below meth c H locs cells slots Q (F0 m pc ls st0) := by
  intro T hT X
  rcases hr T hT X with ⟨v, st₀, t, T', L, h0, X', hL, e1, e2, ⟨⟨u, hv, hp, hb⟩, hF⟩, st⟩ | ⟨q, st₀, t, T', L, E, ce, h0, X', hL, e1, e2, ⟨u, hp, hb, hF⟩, hce, hcv, hcl, st⟩
  · cases hv
    obtain ⟨k1, k2, k3⟩ := vx_keep h0 e1 hS hA hf hL hF
    obtain ⟨t2, a1, b1⟩ := kk u t T'.heap (locs ++ L) e1.symm (by rw [← e2]; exact X'.warmed.alike) hp hb k1 k2 k3 T' rfl X'
    exact ⟨t2, st t2 a1, b1⟩
  · obtain ⟨k1, k2, k3⟩ := vx_keep h0 e1 hS hAX hf hL hF
    obtain ⟨t2, a1, b1⟩ := kx E ce q u t T'.heap (locs ++ L) e1.symm (by rw [← e2]; exact X'.warmed.alike) hp hb k1 k2 k3 (by rw [e1]; exact hce) hcv hcl T' rfl X'
    exact ⟨t2, st.trans a1, b1⟩
/-- caught by the row x of this method's table; the rows ahead don't take it -/
theorem vx_catch {own name : String} {E : String} {ce : Cell} {q : Addr} (hown : s.vm.findClass own = some m.cls) (pre : List ExceptionTableEntry) (x : ExceptionTableEntry) (suf : List ExceptionTableEntry) (hsplit : c.exceptionTable.toList = pre ++ x :: suf)
    (hpass : ∀ z ∈ pre, covers z pc = false ∨ (z.catchType ≠ 0 ∧ ∃ nm : String, (Cond.classLink own z.catchType nm).before args s = true ∧ va_Nc E nm s)) (hx : covers x pc = true) (h0 : x.catchType ≠ 0)
    (hlink : (Cond.classLink own x.catchType name).before args s = true) (hcast : (Cond.castable E name).before args s = true) (hcell : H[q]? = some ce) (hv : ce.vm = .none) (hcl : s.vm.findClass E = some ce.cls)
    (kk : W p l e R s m args below meth c H locs cells slots Q (F0 m x.handlerPc ls [.ref q])) : vx_W p l e R s m args below meth c H locs cells slots Q (F0 m pc ls rest) q := by
  intro T hT X
  have hpl : e.platform.magicAccessors = ({} : Platform).magicAccessors := by rw [X.admits.platform]
  obtain ⟨c3, c4, hc3, hc4, hasg⟩ := Cond.castable_spec hcast
  cases Option.some.inj (hc3.symm.trans hcl)
  obtain ⟨c5, hc5, hcl5⟩ := Cond.classLink_spec hown hlink e.platform hpl
  cases Option.some.inj (hc4.symm.trans hc5)
  obtain ⟨vm', X', st⟩ := X.thenCaughtThrough q (g := F0 m pc ls rest) rfl (Steps.refl _) (by rw [hT]; exact hcell) (by rw [hv]; rfl) (by obtain ⟨k9, h9, -⟩ := Vm.findClass_spec hcl; exact ⟨k9, h9⟩) pre x suf hsplit
    (fun z hz => by
      rcases hpass z hz with h | ⟨hz0, nm, hl1, hn1⟩
      · exact Or.inl h
      · obtain ⟨c6, hc6, hcl6⟩ := Cond.classLink_spec hown hl1 e.platform hpl
        obtain ⟨a8, b8, h1, h2, h3⟩ := hn1
        cases Option.some.inj (h1.symm.trans hcl)
        cases Option.some.inj (h2.symm.trans hc6)
        exact Or.inr ⟨hz0, _, hcl6, h3⟩) hx (Or.inr ⟨h0, c4, hcl5, hasg⟩)
  obtain ⟨t, a1, b1⟩ := kk (T.setVm vm') hT X'
  exact ⟨t, st.trans a1, b1⟩
end Rows
section Ends
variable {p : Program} {l : Launch} {e : Env} {R : Room} {s : State} {m : MethodId} {args : Array Value} {below : List Frame} {meth : Method} {c : Code} {H : Heap} {locs : List Loc} {cells slots : Nat} {Q : State → Prop}
variable {mc ms : Nat} {free : Addr → Prop} {A0 A1 : Nat → Prop} {H0 : Heap} {a : Array Value} {ls : Array Slot} {st0 rest : List Value}
variable {Qc : Array Value → State → Outcome → State → Prop} {XC : String → State → State → Prop}
/-- what a body that may throw owes at its end -/
def vx_MQ (below : List Frame) (Qc : Array Value → State → Outcome → State → Prop) (XC : String → State → State → Prop) (a : Array Value) (s : State) (mc ms : Nat) (free : Addr → Prop) : State → Prop := fun t =>
  ∃ o, t.status = .running ∧ Ended t below o ∧ vx_Q Qc XC mc ms free a s o t
theorem vx_ret {g : JFrame} {mc ms : Nat} (k : W p l e R s m args below meth c H locs cells slots (MQ below Qc args s mc ms free) g) : W p l e R s m args below meth c H locs cells slots (vx_MQ below Qc XC args s mc ms free) g := by
  intro T hT X
  obtain ⟨t, a1, o, b1, b2, b3, b4⟩ := k T hT X
  exact ⟨t, a1, o, b1, b2, Or.inl ⟨b3, b4⟩⟩
/-- not caught here: it goes on to the caller -/
theorem vx_widen {g : JFrame} {q : Addr} {k n : Nat} (h1 : cells ≤ k) (h2 : slots ≤ n) (kk : vx_W p l e R s m args below meth c H locs k n Q g q) : vx_W p l e R s m args below meth c H locs cells slots Q g q := fun T hT X => kk T hT (stand_widen X h1 h2)
theorem vx_out {pc : Nat} {E : String} {ce : Cell} {q : Addr} {mc ms : Nat} (hout : ∀ x ∈ c.exceptionTable.toList, covers x pc = false) (hlocks : meth.locks = false) (hcell : H[q]? = some ce) (hv : ce.vm = .none) (hcl : s.vm.findClass E = some ce.cls)
    (hx : ∀ t : State, t.heap = H → s.vm.Alike t.vm → XC E s t) (hf : ∀ z ∈ locs, free z.base) (hc : cells ≤ mc) (hs : slots ≤ ms) :
    vx_W p l e R s m args below meth c H locs cells slots (vx_MQ below Qc XC args s mc ms free) (F0 m pc ls rest) q := by
  intro T hT X
  obtain ⟨st1, hrun, hend, hW, hsm⟩ := X.leaveThrown q (g := F0 m pc ls rest) rfl rfl rfl hout hlocks
  have hcell9 : (T.setFrames (.throwing q :: below)).heap[q]? = some ce := by
    show T.heap[q]? = some ce
    rw [hT]; exact hcell
  exact ⟨_, st1, .threw q, hrun, hend, Or.inr ⟨q, rfl, E, ce, locs, hx _ hT hW.alike, hcell9, hv, hcl, hW, hsm.mono hc hs, hf⟩⟩
theorem vx_frame {U : State} {k n : Nat} (h : s.sameButNew ({ U with vm := s.vm } : State) locs k n) : s.heap.size ≤ U.heap.size ∧ ∀ q : Nat, q < s.heap.size → (∀ z ∈ locs, z.base ≠ q) → U.heap[q]? = s.heap[q]? := by
  obtain ⟨-, h2, -, -, -, h6⟩ := h
  refine ⟨h2, fun q hq hz => ?_⟩
  obtain ⟨c9, e1, e2, e3, e4⟩ := h6 q _ (Array.getElem?_eq_getElem hq)
  have hs : c9.slots = (s.heap[q]).slots := Array.ext_getElem? fun i => e4 i fun hm => hz _ hm rfl
  have h9 : c9 = s.heap[q] := by
    rw [hs] at e2
    exact e2
  have e5 : U.heap[q]? = some c9 := e1
  rw [e5, h9, Array.getElem?_eq_getElem hq]
/-- the words of a throw but the four that speak of the heap -/
def vx_no (w : Cond) : Bool := decide (w ≠ .isRef (.static Bundle.tN "UNASSIGNED_STACK" Bundle.steD)) && decide (w ≠ .isRef (.static Bundle.tN "SUPPRESSED_SENTINEL" Bundle.listD)) && decide (w ≠ .laysStatic Bundle.tN "UNASSIGNED_STACK" Bundle.steD) && decide (w ≠ .laysStatic Bundle.tN "SUPPRESSED_SENTINEL" Bundle.listD)
def vx_at0 (own : String) (ic : Nat) (X : String) (names : List String) : List Cond := (Bundle.ownAtoms0 own ic X names).filter vx_no
def vx_atS (own : String) (ic : Nat) (X : String) (names : List String) : List Cond := (Bundle.ownAtoms own ic X names).filter vx_no
/-- a word that the tables alone decide, or a good one -/
def vx_ot (w : Cond) : Bool := w.onTables || goodWord w
theorem vx_ot_at {args a' : Array Value} {s U : State} {w : Cond} (hW : s.WarmedH U.vm) (hvm : s.vm = U.vm) (hg : vx_ot w = true) (h : w.before args s = true) : w.before a' U = true := by
  simp only [vx_ot, Bool.or_eq_true] at hg
  rcases hg with hg | hg
  · exact va_tabs hg hvm h
  · exact word_at hW (good_of_word hg) h
/-- a list's words: the good ones out of the method's own list, the others by premises of their own -/
theorem vx_hat {args : Array Value} {s : State} {L B : List Cond} (h1 : ∀ w ∈ L.filter goodWord, w.before args s = true) (h2 : ∀ w ∈ L.filter (fun w => !goodWord w), w ∈ B) (h3 : ∀ w ∈ B, w.before args s = true) : ∀ w ∈ L, w.before args s = true := by
  intro w hw
  by_cases g : goodWord w = true
  · exact h1 w (List.mem_filter.mpr ⟨hw, g⟩)
  · refine h3 w (h2 w (List.mem_filter.mpr ⟨hw, ?_⟩))
    show (!goodWord w) = true
    cases hgw : goodWord w
    · rfl
    · exact absurd hgw g
theorem vx_c {args : Array Value} {s : State} {w : Cond} {B : List Cond} (h : w.before args s = true) (t : ∀ w ∈ B, w.before args s = true) : ∀ w' ∈ w :: B, w'.before args s = true := fun w' h' => (List.mem_cons.mp h').elim (fun e => by rw [e]; exact h) (t w')
theorem vx_n {args : Array Value} {s : State} : ∀ w ∈ ([] : List Cond), w.before args s = true := fun _ h => nomatch h
theorem vx_own {args : Array Value} {s : State} {L : List Cond} (h1 : ∀ w ∈ L.filter vx_no, w.before args s = true)
    (hU : (Cond.isRef (.static Bundle.tN "UNASSIGNED_STACK" Bundle.steD)).before args s = true) (hN : (Cond.isRef (.static Bundle.tN "SUPPRESSED_SENTINEL" Bundle.listD)).before args s = true)
    (lU : (Cond.laysStatic Bundle.tN "UNASSIGNED_STACK" Bundle.steD).before args s = true) (lN : (Cond.laysStatic Bundle.tN "SUPPRESSED_SENTINEL" Bundle.listD).before args s = true) : ∀ w ∈ L, w.before args s = true := by
  intro w hw
  by_cases e1 : w = .isRef (.static Bundle.tN "UNASSIGNED_STACK" Bundle.steD)
  · rw [e1]; exact hU
  · by_cases e2 : w = .isRef (.static Bundle.tN "SUPPRESSED_SENTINEL" Bundle.listD)
    · rw [e2]; exact hN
    · by_cases e3 : w = .laysStatic Bundle.tN "UNASSIGNED_STACK" Bundle.steD
      · rw [e3]; exact lU
      · by_cases e4 : w = .laysStatic Bundle.tN "SUPPRESSED_SENTINEL" Bundle.listD
        · rw [e4]; exact lN
        · exact h1 w (List.mem_filter.mpr ⟨hw, by unfold vx_no; rw [decide_eq_true e1, decide_eq_true e2, decide_eq_true e3, decide_eq_true e4]; rfl⟩)
/-- where a static field lies, its class's statics cell in H -/
def vx_L (C n d : String) (A : Nat → Prop) (U : State) (H : Heap) : Prop := ∃ (c : ClassId) (k : Class) (i : Nat) (f : Field) (a : Nat) (cell : Cell), U.vm.findClass C = some c ∧ U.fieldFound? C n d = some (c, k, i, f) ∧ f.isStatic = true ∧ k.statics = some a ∧ H[a]? = some cell ∧ cell.vm.isStatics = true ∧ cell.cls = c ∧ f.slot < cell.slots.size ∧ k.staticTypes[f.slot]? = some f.type ∧ ¬ A a
theorem vx_L.moved {C n d : String} {A : Nat → Prop} {u U : State} {H : Heap} (hvm : u.vm.Alike U.vm) (h : vx_L C n d A u H) : vx_L C n d A U H := by
  obtain ⟨c, k, i, f, a, cell, h1, h2, h3, h4, h5, h6, h7, h8, h9, h10⟩ := h
  obtain ⟨k', hi', he⟩ := State.fieldFound?_setVm hvm h2
  exact ⟨c, k', i, f, a, cell, by rw [hvm.findClass]; exact h1, hi', h3, by rw [he]; exact h4, h5, h6, h7, h8, by rw [he]; exact h9, h10⟩
theorem vx_L.kept {C n d : String} {A : Nat → Prop} {U : State} {H H1 : Heap} (h : vx_L C n d A U H) (hq : ∀ a : Nat, a < H.size → ¬ A a → H1[a]? = H[a]?) : vx_L C n d A U H1 := by
  obtain ⟨c, k, i, f, a, cell, h1, h2, h3, h4, h5, h6, h7, h8, h9, h10⟩ := h
  exact ⟨c, k, i, f, a, cell, h1, h2, h3, h4, by rw [hq a (Array.getElem?_eq_some_iff.mp h5).1 h10]; exact h5, h6, h7, h8, h9, h10⟩
theorem vx_L.narrow {C n d : String} {A B : Nat → Prop} {U : State} {H : Heap} (h : vx_L C n d A U H) (hAB : ∀ q, B q → A q) : vx_L C n d B U H := by
  obtain ⟨c, k, i, f, a, cell, h1, h2, h3, h4, h5, h6, h7, h8, h9, h10⟩ := h
  exact ⟨c, k, i, f, a, cell, h1, h2, h3, h4, h5, h6, h7, h8, h9, fun z => h10 (hAB _ z)⟩
theorem vx_L.word {C n d : String} {A : Nat → Prop} {s : State} {args : Array Value} (h : vx_L C n d A s s.heap) : (Cond.laysStatic C n d).before args s = true := by
  obtain ⟨c, k, i, f, a, cell, h1, h2, h3, h4, h5, h6, h7, h8, h9, -⟩ := h
  show (Cond.laysStatic C n d).holds args s none s [] = true
  exact Cond.laysStatic_of h1 h2 h3 h4 h5 h6 h7 h8 h9
/-- .. and what it holds: null or some reference -/
def vx_Zq (C n d : String) (A : Nat → Prop) (U : State) (H : Heap) : Prop := va_Zq C n d A U H ∧ vx_L C n d A U H
theorem vx_Zq.moved {C n d : String} {A : Nat → Prop} {u U : State} {H : Heap} (hvm : u.vm.Alike U.vm) (h : vx_Zq C n d A u H) : vx_Zq C n d A U H := ⟨va_Zq.moved hvm h.1, vx_L.moved hvm h.2⟩
theorem vx_Zq.kept {C n d : String} {A : Nat → Prop} {U : State} {H H1 : Heap} (h : vx_Zq C n d A U H) (hq : ∀ a : Nat, a < H.size → ¬ A a → H1[a]? = H[a]?) : vx_Zq C n d A U H1 := ⟨va_Zq.kept h.1 hq, vx_L.kept h.2 hq⟩
theorem vx_Zq.narrow {C n d : String} {A B : Nat → Prop} {U : State} {H : Heap} (h : vx_Zq C n d A U H) (hAB : ∀ q, B q → A q) : vx_Zq C n d B U H := ⟨va_Zq.narrow h.1 hAB, vx_L.narrow h.2 hAB⟩
theorem vx_Zqof {args : Array Value} {s : State} {C n d : String} {A : Nat → Prop} (hl : (Cond.laysStatic C n d).before args s = true) (hini : (Cond.initialized C).before args s = true) (h : (Cond.isRef (.static C n d)).before args s = true) (hA : ∀ a : Nat, a < s.heap.size → ¬ A a) : vx_Zq C n d A s s.heap := by
  refine ⟨va_Zqof hl hini h hA, ?_⟩
  obtain ⟨c, k, i, f, a, cell, h1, h2, h3, h4, h5, h6, h7, h8, h9⟩ := Cond.laysStatic_spec hl
  exact ⟨c, k, i, f, a, cell, h1, h2, h3, h4, h5, h6, h7, h8, h9, hA a (Array.getElem?_eq_some_iff.mp h5).1⟩
theorem vx_isRef {C n d : String} {v : Value} {A : Nat → Prop} {s : State} {args : Array Value} (h : va_Z C n d v A s s.heap) (hv : v.isRef = true) : (Cond.isRef (.static C n d)).before args s = true := by
  obtain ⟨cf, kf, fi, f, a, cell, h1, h2, h3, h4, h5, h6, h7, -⟩ := h
  have he : (Term.static C n d).eval args s none [] s = some v := by
    simp [Term.eval, State.fieldNamed?, h1, h2, h4, h5, h6, h7]
  simp only [Cond.before, Cond.holds, Cond.value, he]
  cases v <;> simp_all [Value.isRef]
theorem vx_isRefq {C n d : String} {A : Nat → Prop} {s : State} {args : Array Value} (h : va_Zq C n d A s s.heap) : (Cond.isRef (.static C n d)).before args s = true := by
  rcases h with h | ⟨t, h⟩
  · exact vx_isRef h rfl
  · exact vx_isRef h rfl
/-- the same frame, seen from here: as if the method were called anew in this heap -/
theorem vx_rebase {T : State} (X : Stand p l e R s m args below meth c T locs cells slots) {R' : Room} (hf : R'.frames ≤ R.frames) (hl : R'.locals ≤ R.locals) (hc : cells + R'.cells ≤ R.cells) (hs : slots + R'.slots ≤ R.slots) :
    Stand p l e R' ((T.setVm s.vm).setFrames (.invoking m args :: below)) m args below meth c T [] 0 0 := by
  have htop : (T.setVm s.vm).topJava?.isSome := X.here.top
  have hF : ((T.setVm s.vm).setFrames (.invoking m args :: below)).frames = .invoking m args :: below := State.frames_setFrames _ (State.cur_lt_of_top htop)
  obtain ⟨g₀, hg0⟩ := Option.isSome_iff_exists.mp htop
  obtain ⟨r, hr⟩ := State.topJava?_eq_some.mp hg0
  have hl9 : e.platform.stackLimits (T.setVm s.vm).me = e.platform.stackLimits s.me := X.limits
  have hb9 : (T.setVm s.vm).me.stackBytes = s.me.stackBytes := X.bytes
  refine ⟨X.admits, X.cas, X.clock, hF, ?_, X.hears, X.method, X.code, X.here, X.tail, X.warmed, ?_, ?_, ?_⟩
  · have h := X.room
    have hU : ((T.setVm s.vm).setFrames (.invoking m args :: below)).localsInUse = s.localsInUse := by
      rw [State.localsInUse_invoking hF (meth := meth) (c := c) X.method X.code, State.localsInUse_invoking X.frames X.method X.code]
    simp only [State.hasRoom, Bool.and_eq_true, decide_eq_true_eq] at h ⊢
    obtain ⟨⟨⟨⟨h1, h2, h3, h4, h5, h6⟩, h7⟩, h8⟩, h9⟩ := h
    rw [X.frames, List.length_cons] at h2 h3
    have q1 := X.heapSize
    have q2 := X.used
    simp only [hF, hU, List.length_cons, State.stackLimits_setFrames, State.stackBytes_setFrames, hl9, hb9]
    refine ⟨⟨⟨⟨by omega, by omega, by omega, by omega, by omega, h6⟩, ?_⟩, ?_⟩, X.book⟩
    · show T.heap.size + R'.cells ≤ e.platform.maxCells
      omega
    · show T.slotsUsed + R'.slots ≤ e.platform.maxSlots
      omega
  · rw [State.stackLimits_setFrames]; rfl
  · rw [State.stackBytes_setFrames]; rfl
  · refine ⟨?_, Nat.le_refl _, Nat.le_refl _, ?_, ?_, fun a c9 h9 => ⟨c9, h9, rfl, rfl, fun _ _ => rfl⟩⟩
    · obtain ⟨t, ht, -⟩ := State.frames_cons hr
      show T.setVm s.vm = { ((T.setVm s.vm).setFrames (.invoking m args :: below)).setFrames (T.setVm s.vm).frames with heap := T.heap, slotsUsed := T.slotsUsed }
      rw [State.setFrames_setFrames, State.setFrames_self ht]
      rfl
    · show T.slotsUsed = T.slotsUsed + ((T.heap.toList.drop T.heap.size).map (·.slots.size)).sum
      rw [List.drop_eq_nil_of_le (Nat.le_of_eq Array.length_toList)]
      rfl
    · show ((T.heap.toList.drop T.heap.size).map (·.slots.size)).sum ≤ 0
      rw [List.drop_eq_nil_of_le (Nat.le_of_eq Array.length_toList)]
      exact Nat.le_refl _
/-- 'throw new E()': new; dup; invokespecial; athrow -/
theorem vx_throw0 {cc : ByteArray} {pc : Nat} (hexec : p.tables.exec = Jvm.exec) (hb : c.code = cc) (hl : l.stackTraces = false) {own cls : String} {names : List String} {ik ic mc ms : Nat} {A : Nat → Prop}
    (hown : s.vm.findClass own = some m.cls) (hcls : Bundle.fit cls = true) (hnames : ∀ n ∈ names, Bundle.fit n = true)
    (hk : (Cond.classLink own ik cls).before args s = true) (hini : (Cond.initialized cls).before args s = true) (hat : ∀ w ∈ vx_at0 own ic cls names, w.before args s = true)
    (hgood : ∀ w ∈ Cond.classLink own ik cls :: Cond.initialized cls :: vx_at0 own ic cls names, vx_ot w = true)
    (hU : vx_Zq Bundle.tN "UNASSIGNED_STACK" Bundle.steD A s s.heap) (hN : vx_Zq Bundle.tN "SUPPRESSED_SENTINEL" Bundle.listD A s s.heap) (hS : va_S A s.heap H locs) (hsize : ls.size = c.maxLocals)
    (d0 : decode cc pc = .ok (.new ik, 3)) (d3 : decode cc (pc + 3) = .ok (.dup, 1)) (d4 : decode cc (pc + 4) = .ok (.invokespecial ic, 3)) (d7 : decode cc (pc + 7) = .ok (.athrow, 1))
    (hout : ∀ x ∈ c.exceptionTable.toList, covers x (pc + 7) = false)
    (hRframes : names.length + 3 < R.frames) (hRlocals : (rest.map fun v => v.category).sum + (13 * (names.length + 1) + 42) ≤ R.locals) (hRcells : cells + 1 ≤ R.cells) (hRslots : slots + 6 ≤ R.slots) (hlocks : meth.locks = false)
    (hx : ∀ t : State, s.vm.Alike t.vm → H.size ≤ t.heap.size → (∀ q : Nat, q < H.size → t.heap[q]? = H[q]?) → XC cls s t)
    (hf : ∀ z ∈ locs, free z.base) (hc : cells + 1 ≤ mc) (hs : slots + 6 ≤ ms) :
    W p l e R s m args below meth c H locs cells slots (vx_MQ below Qc XC args s mc ms free) (F0 m pc ls rest) := by
  intro T hT X
  have htr : e.platform.stackTraces = false := (show e.platform.stackTraces = l.stackTraces by rw [X.admits.platform]).trans hl
  have Y := vx_rebase X (R' := { frames := R.frames, locals := R.locals, cells := 1, slots := 6 }) (Nat.le_refl _) (Nat.le_refl _) hRcells hRslots
  obtain ⟨s', hA⟩ : ∃ z, z = (T.setVm s.vm).setFrames (.invoking m args :: below) := ⟨_, rfl⟩
  rw [← hA] at Y
  have hvm : s'.vm = s.vm := by rw [hA]; rfl
  have hhp : s'.heap = H := by rw [hA]; exact hT
  have hW0 : s.WarmedH s'.vm := by rw [hvm]; exact State.WarmedH.refl s
  have hat' : ∀ w ∈ vx_at0 own ic cls names, w.before args s' = true := fun w hw => vx_ot_at hW0 hvm.symm (hgood w (List.mem_cons_of_mem _ (List.mem_cons_of_mem _ hw))) (hat w hw)
  have hk' : (Cond.classLink own ik cls).before args s' = true := vx_ot_at hW0 hvm.symm (hgood _ List.mem_cons_self) hk
  have hini' : (Cond.initialized cls).before args s' = true := vx_ot_at hW0 hvm.symm (hgood _ (List.mem_cons_of_mem _ List.mem_cons_self)) hini
  have hU' : vx_Zq Bundle.tN "UNASSIGNED_STACK" Bundle.steD A s' s'.heap := by rw [hhp]; exact vx_Zq.moved hW0.alike (hU.kept hS.2.1)
  have hN' : vx_Zq Bundle.tN "SUPPRESSED_SENTINEL" Bundle.listD A s' s'.heap := by rw [hhp]; exact vx_Zq.moved hW0.alike (hN.kept hS.2.1)
  have h : ∀ w ∈ Bundle.ownAtoms0 own ic cls names, w.before args s' = true := vx_own hat' (vx_isRefq hU'.1) (vx_isRefq hN'.1) hU'.2.word hN'.2.word
  have hown' : s'.vm.findClass own = some m.cls := by rw [hvm]; exact hown
  have hins : (Cond.instantiable cls 6).before args s' = true := h _ (by simp [Bundle.ownAtoms0])
  obtain ⟨vm₁, cX, kX, hfX, hkX, -, -, X₁, st1⟩ := Y.newCold hexec (own := own) (C := cls) (index := ik) (n := 6) hown' hk' hins hini'
    (g := F0 m pc ls rest) rfl (by rw [hb]; exact d0) (Nat.le_refl _) (Nat.le_refl _)
  generalize hT1 : (T.setVm vm₁).pushCell { cls := cX, slots := kX.instanceTypes.map defaultValue, vm := .none } = T1 at X₁ st1
  have hcat : (Value.ref T.heap.size).category = 1 := rfl
  have hcellA : T1.heap[T.heap.size]? = some (freshCell cX kX) := by rw [← hT1]; exact State.heap_pushCell_size _ _
  have d3' : decode c.code (pc + 3) = .ok (.dup, 1) := by rw [hb]; exact d3
  obtain ⟨U, hsteps, hrun, hend, hW, hsame, ce, hce, hO⟩ := X₁.ctorThrow0 hexec htr (own := own) (cls := cls) (names := names) (ic := ic) hown' hcls hnames h (fun x hx => nomatch hx) hfX hkX hcellA (by rw [hhp, hT]; exact Nat.le_refl _)
    (g := { method := m, pc := pc + 4, locals := ls, stack := .ref T.heap.size :: .ref T.heap.size :: rest, locked := none }) rfl hsize rfl rfl (rest := rest) rfl
    (by rw [hb]; exact d4) (by rw [hb]; exact d7) hout hRframes (by simp only [List.map_cons, List.sum_cons, hcat]; omega) hlocks
  obtain ⟨f1, f2⟩ := vx_frame hsame
  rw [hhp] at f1 f2
  have hWs : s.WarmedH U.vm := State.WarmedH.trans hW0 hW
  have hcl : s.vm.findClass cls = some ce.cls := by
    have h9 := hO.cls
    rw [hvm] at h9
    exact h9
  have hall : s.sameButNew ({ U with vm := s.vm } : State) locs mc ms := by
    subst hA
    obtain ⟨e1, e2⟩ := hsame
    rw [State.setFrames_setFrames] at e1
    have h2 : (T.setVm s.vm).sameButNew ({ U with vm := s.vm } : State) [] (0 + 1) (0 + 6) := ⟨e1, e2⟩
    have h3 := X.same.trans h2
    rw [List.append_nil] at h3
    exact h3.mono hc hs
  refine ⟨U, ?_, .threw T.heap.size, hrun, hend, Or.inr ⟨T.heap.size, rfl, cls, ce, locs, hx U hWs.alike f1 (fun q hq => f2 q hq (fun z hz => nomatch hz)), hce, hO.vm, hcl, hWs, hall, hf⟩⟩
  refine st1 _ ?_
  show Steps p.tables e below (T1.setTop { method := m, pc := pc + 3, locals := ls, stack := .ref T.heap.size :: rest, locked := none }) _
  jvm_step X₁.here [X₁.here.top, hexec, d3', Value.category]
  exact hsteps
/-- 'throw new E("text")': new; dup; ldc; invokespecial; athrow -/
theorem vx_throwS {cc : ByteArray} {pc : Nat} (hexec : p.tables.exec = Jvm.exec) (hb : c.code = cc) (hl : l.stackTraces = false) {own cls text : String} {names : List String} {ik is ic mc ms sa : Nat} {A : Nat → Prop}
    (hown : s.vm.findClass own = some m.cls) (hcls : Bundle.fit cls = true) (hnames : ∀ n ∈ names, Bundle.fit n = true)
    (hk : (Cond.classLink own ik cls).before args s = true) (hini : (Cond.initialized cls).before args s = true) (hstr : vk_R own is text sa s) (hat : ∀ w ∈ vx_atS own ic cls names, w.before args s = true)
    (hgood : ∀ w ∈ Cond.classLink own ik cls :: Cond.initialized cls :: vx_atS own ic cls names, vx_ot w = true)
    (hU : vx_Zq Bundle.tN "UNASSIGNED_STACK" Bundle.steD A s s.heap) (hN : vx_Zq Bundle.tN "SUPPRESSED_SENTINEL" Bundle.listD A s s.heap) (hS : va_S A s.heap H locs) (hsize : ls.size = c.maxLocals)
    (d0 : decode cc pc = .ok (.new ik, 3)) (d3 : decode cc (pc + 3) = .ok (.dup, 1)) (d4 : decode cc (pc + 4) = .ok (.ldc is, 2)) (d6 : decode cc (pc + 6) = .ok (.invokespecial ic, 3)) (d9 : decode cc (pc + 9) = .ok (.athrow, 1))
    (hout : ∀ x ∈ c.exceptionTable.toList, covers x (pc + 9) = false)
    (hRframes : names.length + 3 < R.frames) (hRlocals : (rest.map fun v => v.category).sum + (13 * (names.length + 1) + 43) ≤ R.locals) (hRcells : cells + 1 ≤ R.cells) (hRslots : slots + 6 ≤ R.slots) (hlocks : meth.locks = false)
    (hx : ∀ t : State, s.vm.Alike t.vm → H.size ≤ t.heap.size → (∀ q : Nat, q < H.size → t.heap[q]? = H[q]?) → XC cls s t)
    (hf : ∀ z ∈ locs, free z.base) (hc : cells + 1 ≤ mc) (hs : slots + 6 ≤ ms) :
    W p l e R s m args below meth c H locs cells slots (vx_MQ below Qc XC args s mc ms free) (F0 m pc ls rest) := by
  intro T hT X
  have htr : e.platform.stackTraces = false := (show e.platform.stackTraces = l.stackTraces by rw [X.admits.platform]).trans hl
  have Y := vx_rebase X (R' := { frames := R.frames, locals := R.locals, cells := 1, slots := 6 }) (Nat.le_refl _) (Nat.le_refl _) hRcells hRslots
  obtain ⟨s', hA⟩ : ∃ z, z = (T.setVm s.vm).setFrames (.invoking m args :: below) := ⟨_, rfl⟩
  rw [← hA] at Y
  have hvm : s'.vm = s.vm := by rw [hA]; rfl
  have hhp : s'.heap = H := by rw [hA]; exact hT
  have hW0 : s.WarmedH s'.vm := by rw [hvm]; exact State.WarmedH.refl s
  have hat' : ∀ w ∈ vx_atS own ic cls names, w.before args s' = true := fun w hw => vx_ot_at hW0 hvm.symm (hgood w (List.mem_cons_of_mem _ (List.mem_cons_of_mem _ hw))) (hat w hw)
  have hk' : (Cond.classLink own ik cls).before args s' = true := vx_ot_at hW0 hvm.symm (hgood _ List.mem_cons_self) hk
  have hini' : (Cond.initialized cls).before args s' = true := vx_ot_at hW0 hvm.symm (hgood _ (List.mem_cons_of_mem _ List.mem_cons_self)) hini
  have hU' : vx_Zq Bundle.tN "UNASSIGNED_STACK" Bundle.steD A s' s'.heap := by rw [hhp]; exact vx_Zq.moved hW0.alike (hU.kept hS.2.1)
  have hN' : vx_Zq Bundle.tN "SUPPRESSED_SENTINEL" Bundle.listD A s' s'.heap := by rw [hhp]; exact vx_Zq.moved hW0.alike (hN.kept hS.2.1)
  have h : ∀ w ∈ Bundle.ownAtoms own ic cls names, w.before args s' = true := vx_own hat' (vx_isRefq hU'.1) (vx_isRefq hN'.1) hU'.2.word hN'.2.word
  have hown' : s'.vm.findClass own = some m.cls := by rw [hvm]; exact hown
  have hins : (Cond.instantiable cls 6).before args s' = true := h _ (by simp [Bundle.ownAtoms])
  obtain ⟨vm₁, cX, kX, hfX, hkX, -, -, X₁, st1⟩ := Y.newCold hexec (own := own) (C := cls) (index := ik) (n := 6) hown' hk' hins hini'
    (g := F0 m pc ls rest) rfl (by rw [hb]; exact d0) (Nat.le_refl _) (Nat.le_refl _)
  generalize hT1 : (T.setVm vm₁).pushCell { cls := cX, slots := kX.instanceTypes.map defaultValue, vm := .none } = T1 at X₁ st1
  have hcat : (Value.ref T.heap.size).category = 1 := rfl
  have hcellA : T1.heap[T.heap.size]? = some (freshCell cX kX) := by rw [← hT1]; exact State.heap_pushCell_size _ _
  have d3' : decode c.code (pc + 3) = .ok (.dup, 1) := by rw [hb]; exact d3
  have d4' : decode c.code (pc + 4) = .ok (.ldc is, 2) := by rw [hb]; exact d4
  have hstr' : vk_R own is text sa s' := vk_R.warm hW0 hstr
  obtain ⟨U, hsteps, hrun, hend, hW, hsame, ce, hce, hO⟩ := X₁.ctorThrowS hexec htr (own := own) (cls := cls) (names := names) (ic := ic) hown' hcls hnames h (fun x hx => nomatch hx) hfX hkX hcellA (by rw [hhp, hT]; exact Nat.le_refl _) (msg := .ref sa) rfl
    (g := { method := m, pc := pc + 6, locals := ls, stack := .ref sa :: .ref T.heap.size :: .ref T.heap.size :: rest, locked := none }) rfl hsize rfl rfl (rest := rest) rfl
    (by rw [hb]; exact d6) (by rw [hb]; exact d9) hout hRframes (by simp only [List.map_cons, List.sum_cons, hcat]; omega) hlocks
  obtain ⟨f1, f2⟩ := vx_frame hsame
  rw [hhp] at f1 f2
  have hWs : s.WarmedH U.vm := State.WarmedH.trans hW0 hW
  have hcl : s.vm.findClass cls = some ce.cls := by
    have h9 := hO.cls
    rw [hvm] at h9
    exact h9
  have hall : s.sameButNew ({ U with vm := s.vm } : State) locs mc ms := by
    subst hA
    obtain ⟨e1, e2⟩ := hsame
    rw [State.setFrames_setFrames] at e1
    have h2 : (T.setVm s.vm).sameButNew ({ U with vm := s.vm } : State) [] (0 + 1) (0 + 6) := ⟨e1, e2⟩
    have h3 := X.same.trans h2
    rw [List.append_nil] at h3
    exact h3.mono hc hs
  refine ⟨U, ?_, .threw T.heap.size, hrun, hend, Or.inr ⟨T.heap.size, rfl, cls, ce, locs, hx U hWs.alike f1 (fun q hq => f2 q hq (fun z hz => nomatch hz)), hce, hO.vm, hcl, hWs, hall, hf⟩⟩
  refine st1 _ ?_
  show Steps p.tables e below (T1.setTop { method := m, pc := pc + 3, locals := ls, stack := .ref T.heap.size :: rest, locked := none }) _
  jvm_step X₁.here [X₁.here.top, hexec, d3', Value.category]
  exact X₁.ldcString hexec (own := own) (text := text) (index := is) (a := sa) hown' hstr'.1 hstr'.2
    (g := { method := m, pc := pc + 4, locals := ls, stack := .ref T.heap.size :: .ref T.heap.size :: rest, locked := none }) rfl d4' _ hsteps
/-- 'throw new E("text")', the text by a wide index -/
theorem vx_throwSW {cc : ByteArray} {pc : Nat} (hexec : p.tables.exec = Jvm.exec) (hb : c.code = cc) (hl : l.stackTraces = false) {own cls text : String} {names : List String} {ik is ic mc ms sa : Nat} {A : Nat → Prop}
    (hown : s.vm.findClass own = some m.cls) (hcls : Bundle.fit cls = true) (hnames : ∀ n ∈ names, Bundle.fit n = true)
    (hk : (Cond.classLink own ik cls).before args s = true) (hini : (Cond.initialized cls).before args s = true) (hstr : vk_R own is text sa s) (hat : ∀ w ∈ vx_atS own ic cls names, w.before args s = true)
    (hgood : ∀ w ∈ Cond.classLink own ik cls :: Cond.initialized cls :: vx_atS own ic cls names, vx_ot w = true)
    (hU : vx_Zq Bundle.tN "UNASSIGNED_STACK" Bundle.steD A s s.heap) (hN : vx_Zq Bundle.tN "SUPPRESSED_SENTINEL" Bundle.listD A s s.heap) (hS : va_S A s.heap H locs) (hsize : ls.size = c.maxLocals)
    (d0 : decode cc pc = .ok (.new ik, 3)) (d3 : decode cc (pc + 3) = .ok (.dup, 1)) (d4 : decode cc (pc + 4) = .ok (.ldc_w is, 3)) (d7 : decode cc (pc + 7) = .ok (.invokespecial ic, 3)) (d10 : decode cc (pc + 10) = .ok (.athrow, 1))
    (hout : ∀ x ∈ c.exceptionTable.toList, covers x (pc + 10) = false)
    (hRframes : names.length + 3 < R.frames) (hRlocals : (rest.map fun v => v.category).sum + (13 * (names.length + 1) + 43) ≤ R.locals) (hRcells : cells + 1 ≤ R.cells) (hRslots : slots + 6 ≤ R.slots) (hlocks : meth.locks = false)
    (hx : ∀ t : State, s.vm.Alike t.vm → H.size ≤ t.heap.size → (∀ q : Nat, q < H.size → t.heap[q]? = H[q]?) → XC cls s t)
    (hf : ∀ z ∈ locs, free z.base) (hc : cells + 1 ≤ mc) (hs : slots + 6 ≤ ms) :
    W p l e R s m args below meth c H locs cells slots (vx_MQ below Qc XC args s mc ms free) (F0 m pc ls rest) := by
  intro T hT X
  have htr : e.platform.stackTraces = false := (show e.platform.stackTraces = l.stackTraces by rw [X.admits.platform]).trans hl
  have Y := vx_rebase X (R' := { frames := R.frames, locals := R.locals, cells := 1, slots := 6 }) (Nat.le_refl _) (Nat.le_refl _) hRcells hRslots
  obtain ⟨s', hA⟩ : ∃ z, z = (T.setVm s.vm).setFrames (.invoking m args :: below) := ⟨_, rfl⟩
  rw [← hA] at Y
  have hvm : s'.vm = s.vm := by rw [hA]; rfl
  have hhp : s'.heap = H := by rw [hA]; exact hT
  have hW0 : s.WarmedH s'.vm := by rw [hvm]; exact State.WarmedH.refl s
  have hat' : ∀ w ∈ vx_atS own ic cls names, w.before args s' = true := fun w hw => vx_ot_at hW0 hvm.symm (hgood w (List.mem_cons_of_mem _ (List.mem_cons_of_mem _ hw))) (hat w hw)
  have hk' : (Cond.classLink own ik cls).before args s' = true := vx_ot_at hW0 hvm.symm (hgood _ List.mem_cons_self) hk
  have hini' : (Cond.initialized cls).before args s' = true := vx_ot_at hW0 hvm.symm (hgood _ (List.mem_cons_of_mem _ List.mem_cons_self)) hini
  have hU' : vx_Zq Bundle.tN "UNASSIGNED_STACK" Bundle.steD A s' s'.heap := by rw [hhp]; exact vx_Zq.moved hW0.alike (hU.kept hS.2.1)
  have hN' : vx_Zq Bundle.tN "SUPPRESSED_SENTINEL" Bundle.listD A s' s'.heap := by rw [hhp]; exact vx_Zq.moved hW0.alike (hN.kept hS.2.1)
  have h : ∀ w ∈ Bundle.ownAtoms own ic cls names, w.before args s' = true := vx_own hat' (vx_isRefq hU'.1) (vx_isRefq hN'.1) hU'.2.word hN'.2.word
  have hown' : s'.vm.findClass own = some m.cls := by rw [hvm]; exact hown
  have hins : (Cond.instantiable cls 6).before args s' = true := h _ (by simp [Bundle.ownAtoms])
  obtain ⟨vm₁, cX, kX, hfX, hkX, -, -, X₁, st1⟩ := Y.newCold hexec (own := own) (C := cls) (index := ik) (n := 6) hown' hk' hins hini'
    (g := F0 m pc ls rest) rfl (by rw [hb]; exact d0) (Nat.le_refl _) (Nat.le_refl _)
  generalize hT1 : (T.setVm vm₁).pushCell { cls := cX, slots := kX.instanceTypes.map defaultValue, vm := .none } = T1 at X₁ st1
  have hcat : (Value.ref T.heap.size).category = 1 := rfl
  have hcellA : T1.heap[T.heap.size]? = some (freshCell cX kX) := by rw [← hT1]; exact State.heap_pushCell_size _ _
  have d3' : decode c.code (pc + 3) = .ok (.dup, 1) := by rw [hb]; exact d3
  have d4' : decode c.code (pc + 4) = .ok (.ldc_w is, 3) := by rw [hb]; exact d4
  have hstr' : vk_R own is text sa s' := vk_R.warm hW0 hstr
  obtain ⟨U, hsteps, hrun, hend, hW, hsame, ce, hce, hO⟩ := X₁.ctorThrowS hexec htr (own := own) (cls := cls) (names := names) (ic := ic) hown' hcls hnames h (fun x hx => nomatch hx) hfX hkX hcellA (by rw [hhp, hT]; exact Nat.le_refl _) (msg := .ref sa) rfl
    (g := { method := m, pc := pc + 7, locals := ls, stack := .ref sa :: .ref T.heap.size :: .ref T.heap.size :: rest, locked := none }) rfl hsize rfl rfl (rest := rest) rfl
    (by rw [hb]; exact d7) (by rw [hb]; exact d10) hout hRframes (by simp only [List.map_cons, List.sum_cons, hcat]; omega) hlocks
  obtain ⟨f1, f2⟩ := vx_frame hsame
  rw [hhp] at f1 f2
  have hWs : s.WarmedH U.vm := State.WarmedH.trans hW0 hW
  have hcl : s.vm.findClass cls = some ce.cls := by
    have h9 := hO.cls
    rw [hvm] at h9
    exact h9
  have hall : s.sameButNew ({ U with vm := s.vm } : State) locs mc ms := by
    subst hA
    obtain ⟨e1, e2⟩ := hsame
    rw [State.setFrames_setFrames] at e1
    have h2 : (T.setVm s.vm).sameButNew ({ U with vm := s.vm } : State) [] (0 + 1) (0 + 6) := ⟨e1, e2⟩
    have h3 := X.same.trans h2
    rw [List.append_nil] at h3
    exact h3.mono hc hs
  refine ⟨U, ?_, .threw T.heap.size, hrun, hend, Or.inr ⟨T.heap.size, rfl, cls, ce, locs, hx U hWs.alike f1 (fun q hq => f2 q hq (fun z hz => nomatch hz)), hce, hO.vm, hcl, hWs, hall, hf⟩⟩
  refine st1 _ ?_
  show Steps p.tables e below (T1.setTop { method := m, pc := pc + 3, locals := ls, stack := .ref T.heap.size :: rest, locked := none }) _
  jvm_step X₁.here [X₁.here.top, hexec, d3', Value.category]
  exact X₁.ldcStringW hexec (own := own) (text := text) (index := is) (a := sa) hown' hstr'.1 hstr'.2
    (g := { method := m, pc := pc + 4, locals := ls, stack := .ref T.heap.size :: .ref T.heap.size :: rest, locked := none }) rfl d4' _ hsteps
end Ends
section Bodies
variable {l : Launch}
theorem vx_ofW {y : MethodName} {ws ws' : List Cond} {rm : Room} {Pc : Array Value → State → Prop} {Qc : Array Value → State → Outcome → State → Prop} {XC : String → State → State → Prop} {mc ms : Nat} {free : Addr → Prop} {cc : ByteArray} {maxL : Nat} {ret : Option FieldType}
    (hy : plainName y.cls = true) (hw : ws = Cond.code y cc maxL ret :: ws')
    (body : ∀ p e s m args below meth c s₁, BodyLoose p l y (headSpec ws rm) cc maxL ret e s m args below meth c s₁ → c.maxLocals = maxL → (∀ x ∈ c.exceptionTable.toList, False) → Pc args s →
      W p l e (headSpec ws rm).room s m args below meth c s.heap [] 0 0 (vx_MQ below Qc XC args s mc ms free) (entryFrame m args maxL)) : vx_Met l y ws rm Pc Qc XC mc ms free := by
  refine MetFree.of_bodyS (code := cc) (maxLocals := maxL) (ret := ret) hy ?_ ?_
  · intro args s m h hn
    obtain ⟨meth, c, h1, h2, h3, h4, h5, h6, -, -⟩ := Cond.code_spec hn (atoms_spec (ws := ws) h _ (by rw [hw]; exact List.mem_cons_self))
    exact ⟨meth, c, h1, h2, h3, h4, h5, h6⟩
  · intro p e s m args below meth c s₁ B hml hP _
    have hh0 : s₁.heap = s.heap := by rw [B.state]; rfl
    have ht : ∀ x ∈ c.exceptionTable.toList, False := by
      obtain ⟨meth9, c9, h1, h2, -, -, -, -, h7, -⟩ := Cond.code_spec B.named (atoms_spec (ws := ws) B.pre _ (by rw [hw]; exact List.mem_cons_self))
      cases Option.some.inj (h1.symm.trans B.method)
      cases Option.some.inj (h2.symm.trans (Stand.of_body B).code)
      intro x hx
      rw [Array.isEmpty_iff.mp h7] at hx
      cases hx
    obtain ⟨t, a1, o, b1, b2, b3⟩ := body p e s m args below meth c s₁ B hml ht hP s₁ hh0 (Stand.of_body B)
    exact ⟨t, o, a1, b1, b2, b3⟩
/-- the table of a body with handlers -/
theorem vx_table {p : Program} {x y : MethodName} {S : Spec} {cc bytes : ByteArray} {maxL maxL' : Nat} {ret ret' : Option FieldType} {e : Env} {s s₁ : State} {m : MethodId} {args : Array Value} {below : List Frame} {meth : Method} {c : Code} {hh : List (Nat × Nat × Nat × Nat)}
    (B : BodyLoose p l y S cc maxL ret e s m args below meth c s₁) (h : (Cond.codeWith y bytes maxL' ret' hh).before args s = true) : c.exceptionTable.toList = tableOf hh := by
  obtain ⟨m9, meth9, c9, hn9, h1, h2, -, -, h6, -⟩ := Cond.codeWith_spec h
  cases Option.some.inj (hn9.symm.trans B.named)
  cases Option.some.inj (h1.symm.trans B.method)
  cases Option.some.inj (h2.symm.trans (Stand.of_body B).code)
  rw [← h6, table_eq]
end Bodies
end VXA
/-! ===== END ===== -/
/-! ===== BEGIN a static call of a method with an exception table ===== -/
section VXS
variable {p : Program} {l : Launch} {e : Env} {R : Room} {s : State} {m : MethodId} {args : Array Value} {below : List Frame} {meth : Method} {c : Code} {T : State} {H : Heap} {locs : List Loc} {cells slots : Nat}
abbrev vx_CSW (R : Room) (s : State) (args : Array Value) (own : String) (index : Nat) (y : MethodName) (bytes : ByteArray) (maxL : Nat) (ret : Option FieldType) (hh : List (Nat × Nat × Nat × Nat)) (ws : List Cond) (rm : Room) (mc ms n : Nat) : Prop :=
  (rm.cells = mc ∧ rm.slots = ms ∧ rm.frames + 1 ≤ R.frames ∧ 8 + (maxL + 11) + rm.locals ≤ R.locals ∧ (∀ w ∈ ws, ∀ (a' : Array Value) (U : State), s.WarmedH U.vm → w.before a' U = true) ∧ Cond.codeWith y bytes maxL ret hh ∈ ws) ∧
  (Cond.codeWith y bytes maxL ret hh).before args s = true ∧ (Cond.initialized y.cls).before args s = true ∧ (y.cls ≠ "java/lang/invoke/MethodHandle" ∧ y.cls ≠ "java/lang/invoke/VarHandle") ∧
  (∀ sig, parseMethodDescriptor y.desc = some sig → n = sig.parameters.length) ∧ (Cond.methodLink own index y).before args s = true ∧ (Cond.static y).before args s = true
theorem vx_cwSW {own : String} {index maxL mc ms : Nat} {y : MethodName} {bytes : ByteArray} {ret : Option FieldType} {hh : List (Nat × Nat × Nat × Nat)} {Ts ws ws' : List Cond} {rm : Room} (n : Nat) (ht : ∀ w ∈ Ts, w.before args s = true) (hT : GoodIn Ts (va_wsS own index y ws)) (hw : ws = Cond.codeWith y bytes maxL ret hh :: ws') (hrc : rm.cells = mc) (hrs : rm.slots = ms)
    (hd : y.cls ≠ "java/lang/invoke/MethodHandle" ∧ y.cls ≠ "java/lang/invoke/VarHandle" ∧ (parseMethodDescriptor y.desc).map (fun d => d.parameters.length) = some n) (hR : rm.frames + 1 ≤ R.frames ∧ 8 + (maxL + 11) + rm.locals ≤ R.locals) :
    vx_CSW R s args own index y bytes maxL ret hh ws rm mc ms n := by
  have ok : ∀ w ∈ va_wsS own index y ws, w.before args s = true := fun w h => ht w (hT w h).1
  have hG : GoodIn Ts ws := fun w h => hT w (by unfold va_wsS; exact List.mem_append_right _ h)
  have hc : Cond.codeWith y bytes maxL ret hh ∈ ws := by rw [hw]; exact List.mem_cons_self
  refine ⟨⟨hrc, hrs, hR.1, hR.2, pay_in ht hG, hc⟩, ht _ (hG _ hc).1, ok _ (by simp [va_wsS]), ⟨hd.1, hd.2.1⟩, fun sig h => ?_, ok _ (by simp [va_wsS]), ok _ (by simp [va_wsS])⟩
  have h2 := hd.2.2
  rw [h] at h2
  exact (Option.some.inj h2).symm
theorem vx_callSW (X : Stand p l e R s m args below meth c T locs cells slots) (hexec : p.tables.exec = Jvm.exec) {own : String} {index : Nat} {y : MethodName} {bytes : ByteArray} {maxL : Nat} {ret : Option FieldType} {hh : List (Nat × Nat × Nat × Nat)}
    (hown : s.vm.findClass own = some m.cls) (hlink : (Cond.methodLink own index y).before args s = true) (hstat : (Cond.static y).before args s = true) (hinit : (Cond.initialized y.cls).before args s = true)
    (hcode : (Cond.codeWith y bytes maxL ret hh).before args s = true) (hy : y.cls ≠ "java/lang/invoke/MethodHandle" ∧ y.cls ≠ "java/lang/invoke/VarHandle")
    {W9 : Nat} {Pre : Pt → Array Value → Prop} {Post : Pt → Array Value → Option Value → Pt → Prop} (hK : Back l R p e below s args y 3 W9 Pre Post)
    {g : JFrame} (hg : g.method = m) (hsize : g.locals.size = c.maxLocals) {argsL rest : List Value} (hlen : ∀ sig, parseMethodDescriptor y.desc = some sig → argsL.length = sig.parameters.length)
    (hstack : g.stack = argsL.reverse ++ rest) (hW : 2 * g.monitorRoom + (rest.map fun v => v.category).sum ≤ W9) (hdg : decode c.code g.pc = .ok (.invokestatic index, 3))
    (hpre : ∀ vm₁, s.WarmedH vm₁ → Pre ⟨T.setVm vm₁, locs, cells, slots⟩ argsL.toArray) :
    ∃ (v : Option Value) (vm₁ : Vm) (B : Pt), s.WarmedH vm₁ ∧ Stand p l e R s m args below meth c B.U B.locs B.cells B.slots ∧ Post ⟨T.setVm vm₁, locs, cells, slots⟩ argsL.toArray v B ∧
      ∀ target, Steps p.tables e below (B.U.setTop { g with pc := g.pc + 3, stack := v.toList ++ rest }) target → Steps p.tables e below (T.setTop g) target := by
  obtain ⟨mk, methM, cM, hnamed, hmethM, -, -, -, -, -, -, hsigM⟩ := Cond.codeWith_spec hcode
  have hstatic : methM.isStatic = true := Cond.static_spec hnamed hmethM hstat
  obtain ⟨kP, hkP, -⟩ := className_of_methodNamed hnamed
  have hinitP : kP.init = .initialized := Cond.initialized_spec (findClass_of_methodNamed hnamed) hkP hinit
  obtain ⟨vm₁, X₁, hstep₁⟩ := X.invokestatic hexec hown hlink hnamed hmethM hstatic hkP hinitP hy (g := g) hg (argsL := argsL) (rest := rest) (hlen _ hsigM) hstack hdg
  obtain ⟨v, B, X', hpost, hsteps⟩ := hK m meth c ⟨T.setVm vm₁, locs, cells, slots⟩ { g with stack := rest } (.invokestatic index) mk argsL.toArray X₁ hg hsize hdg hW (X₁.named hnamed) (hpre vm₁ X₁.warmed)
  exact ⟨v, vm₁, B, X₁.warmed, X', hpost, fun target h => hstep₁ _ fun acts => by rw [doInvoke_state]; exact hsteps.trans h⟩
theorem vx_runSW {y : MethodName} {bytes cc : ByteArray} {maxL nL mc ms n index : Nat} {ret : Option FieldType} {hh : List (Nat × Nat × Nat × Nat)} {ws : List Cond} {rm : Room} {Pc : Array Value → State → Prop} {Qc : Array Value → State → Outcome → State → Prop} {free : Addr → Prop} {Ts : List Cond} {own : String} {As rest : List Value} {g : JFrame}
    (S : CallFix p m c cc nL s args Ts own) (hM : Met l y ws rm Pc Qc mc ms free) (cw : vx_CSW R s args own index y bytes maxL ret hh ws rm mc ms n) (hp : PreS s H Pc As)
    (hg : g.method = m) (hn : As.length = n) (hsize : g.locals.size = nL) (hstack : g.stack = As.reverse ++ rest) (hW : 2 * g.monitorRoom + (rest.map fun v => v.category).sum ≤ 8) (hdg : decode cc g.pc = .ok (.invokestatic index, 3)) (hf : cells + mc ≤ R.cells ∧ slots + ms ≤ R.slots) :
    va_Run p l e R s m args below meth c H locs cells slots mc ms g rest (Qc As.toArray) (free) := by
  obtain ⟨⟨hrc, hrs, hfr, hlo, hws, hcw⟩, hcode, hini, hy, hlen, hl, hstt⟩ := cw
  have hK : Back l R p e below s args y 3 8 (PreOf R mc ms Pc) (PostOf Qc mc ms free) := va_backW (hh := hh) (bytes := bytes) (maxL := maxL) (ret := ret) hM hp.1 hrc hrs hfr hlo hws hcw (fun a' U hW => word_at hW (Or.inl (by first | rfl | simp [Cond.onTables, Cond.keeps, Cond.steady])) hini)
  obtain ⟨hx, hb, hml, ho, -⟩ := S
  intro T hT X
  obtain ⟨v, vm₁, ⟨U', l2, c2, s2⟩, hW₁, X', ⟨g', mk, t, L, e1, e2, hq, h1, hL, h2, h3⟩, st⟩ := vx_callSW X hx (hh := hh) (bytes := bytes) (maxL := maxL) (ret := ret) ho hl hstt hini hcode hy hK hg (hsize.trans hml.symm) (argsL := As) (rest := rest) (fun sig h => hn.trans (hlen sig h)) hstack hW (by rw [hb]; exact hdg)
    (fun vm₁ hW₁ => ⟨hf.1, hf.2, hp.2 (T.setVm vm₁) hT hW₁⟩)
  dsimp only [Pt.U, Pt.locs, Pt.cells, Pt.slots] at X' e1 e2 h1 h2 h3 st
  subst h1; subst h2; subst h3
  exact ⟨v, (T.setVm vm₁).calling g' mk As.toArray, t, U', L, hT, X', hL, e1, e2, hq, st⟩
/-- not caught here, past rows that name other classes: it goes on to the caller -/
theorem vx_outP {p : Program} {l : Launch} {e : Env} {R : Room} {s : State} {m : MethodId} {args : Array Value} {below : List Frame} {meth : Method} {c : Code} {H : Heap} {locs : List Loc} {cells slots : Nat} {free : Addr → Prop} {ls : Array Slot} {rest : List Value} {Qc : Array Value → State → Outcome → State → Prop} {XC : String → State → State → Prop}
    {pc : Nat} {own E : String} {ce : Cell} {q : Addr} {mc ms : Nat} (hown : s.vm.findClass own = some m.cls) (hlocks : meth.locks = false)
    (hpass : ∀ z ∈ c.exceptionTable.toList, covers z pc = false ∨ (z.catchType ≠ 0 ∧ ∃ nm : String, (Cond.classLink own z.catchType nm).before args s = true ∧ va_Nc E nm s)) (hcell : H[q]? = some ce) (hv : ce.vm = .none) (hcl : s.vm.findClass E = some ce.cls)
    (hx : ∀ t : State, t.heap = H → s.vm.Alike t.vm → XC E s t) (hf : ∀ z ∈ locs, free z.base) (hc : cells ≤ mc) (hs : slots ≤ ms) :
    vx_W p l e R s m args below meth c H locs cells slots (vx_MQ below Qc XC args s mc ms free) (F0 m pc ls rest) q := by
  intro T hT X
  have hpl : e.platform.magicAccessors = ({} : Platform).magicAccessors := by rw [X.admits.platform]
  obtain ⟨vm', hW', X', st⟩ := X.outThrough hlocks q (g := F0 m pc ls rest) rfl rfl rfl (cell := ce) (by rw [hT]; exact hcell) (by rw [hv]; rfl)
    (by obtain ⟨k9, h9, -⟩ := Vm.findClass_spec hcl; exact ⟨k9, h9⟩) (fun z hz => by
      rcases hpass z hz with h | ⟨hz0, nm, hl1, hn1⟩
      · exact Or.inl h
      · obtain ⟨c6, hc6, hcl6⟩ := Cond.classLink_spec hown hl1 e.platform hpl
        obtain ⟨a8, b8, h1, h2, h3⟩ := hn1
        cases Option.some.inj (h1.symm.trans hcl)
        cases Option.some.inj (h2.symm.trans hc6)
        exact Or.inr ⟨hz0, _, hcl6, h3⟩)
  obtain ⟨g₀, hfr⟩ := X'.frames_eq
  have hcell9 : ((T.setVm vm').setFrames (.throwing q :: below)).heap[q]? = some ce := by
    show T.heap[q]? = some ce
    rw [hT]; exact hcell
  have hend : Ended ((T.setVm vm').setFrames (.throwing q :: below)) below (.threw q) := State.frames_setFrames _ (State.cur_lt_of_frames hfr)
  refine ⟨(T.setVm vm').setFrames (.throwing q :: below), ?_, .threw q, X'.here.running, hend, Or.inr ⟨q, rfl, E, ce, locs, hx _ hT (X'.ends _).1.alike, hcell9, hv, hcl, (X'.ends _).1, (X'.ends _).2.mono hc hs, hf⟩⟩
  rw [X.pushThrowing_eq]
  exact st
/-- a thing of a world lies in the heap -/
theorem vx_lt {D : va_G} {cl : List vw_C} {ws : va_W} {H1 : Heap} (h : va_P D cl ws H1) {k : Nat} {q : Nat × va_E} (hk : ws[k]? = some q) : q.1 < H1.size := (h k q hk).lt
end VXS
/-! ===== END ===== -/
/-! ===== BEGIN methods with a table of their own: called by a name, returning or throwing ===== -/
section VXH
/-! vx_backW, vx_callVX, vx_callSX, vx_callVW, vx_runVW, vx_runVX, vx_runSX, vx_ofWH follow the same proofs as their sisters above (Free/Laws.lean, Shelf42/LK1.lean); vx_outP calls Shelf42/NT130.lean (outThrough). -/
section
variable {l : Launch} {R : Room} {p : Program} {e : Env} {below : List Frame} {s : State} {sargs : Array Value} {y : MethodName} {len W9 : Nat}
theorem vx_backW {ws : List Cond} {rm : Room} {Pc : Array Value → State → Prop} {Qc : Array Value → State → Outcome → State → Prop} {XC : String → State → State → Prop} {mc ms : Nat} {free : Addr → Prop} {bytes : ByteArray} {maxL : Nat} {ret : Option FieldType} {hh : List (Nat × Nat × Nat × Nat)}
    (hM : vx_Met l y ws rm Pc Qc XC mc ms free) (hblind : FrameBlind Pc) (hrc : rm.cells = mc) (hrs : rm.slots = ms)
    (hframes : rm.frames + 1 ≤ R.frames) (hlocals : W9 + (maxL + 11) + rm.locals ≤ R.locals)
    (hws : ∀ w ∈ ws, ∀ a' U, s.WarmedH U.vm → w.before a' U = true) (hcode : Cond.codeWith y bytes maxL ret hh ∈ ws) (hinit : ∀ a' U, s.WarmedH U.vm → (Cond.initialized y.cls).before a' U = true) :
    vx_Back l R p e below s sargs y len W9 (PreOf R mc ms Pc) (PostOf Qc mc ms free) (vx_Post XC mc ms free) := by
  intro m meth c A g ig mk a X hg hsize hdg hW hn hp
  have h1 : (headSpec ws rm).pre.before a A.U = true := atoms_intro fun w hw => hws w hw _ _ X.warmed
  have h2 : (Cond.codeWith y bytes maxL ret hh).before a A.U = true := hws _ hcode _ _ X.warmed
  have h3 : (Cond.initialized y.cls).before a A.U = true := hinit _ _ X.warmed
  have h4 : A.cells + (headSpec ws rm).room.cells ≤ R.cells := by rw [show (headSpec ws rm).room.cells = mc from hrc]; exact hp.1
  have h5 : A.slots + (headSpec ws rm).room.slots ≤ R.slots := by rw [show (headSpec ws rm).room.slots = ms from hrs]; exact hp.2.1
  have hPc : Pc a (A.U.calling g mk a) := hblind _ _ _ _ hp.2.2
  obtain ⟨U, Ls, c0, s0⟩ := A
  dsimp only [Pt.U, Pt.locs, Pt.cells, Pt.slots] at h1 h2 h3 h4 h5 X hn hPc ⊢
  obtain ⟨m9, methY, cY, hn9, hmY, hcY, -, hlY, -⟩ := Cond.codeWith_spec h2
  cases Option.some.inj (hn9.symm.trans hn)
  obtain ⟨kY, hkY, -⟩ := className_of_methodNamed hn
  have hinitY : kY.init = .initialized := Cond.initialized_spec (findClass_of_methodNamed hn) hkY h3
  have h : At U g.method c below := by rw [hg]; exact X.here
  have hlocals9 : W9 + (maxL + 11) + (headSpec ws rm).room.locals ≤ R.locals := hlocals
  have happ : (headSpec ws rm).appliesLoose y e.platform (U.calling g mk a) = true :=
    Spec.appliesLoose_calling (g := g) h hdg hn hkY hinitY
      (X.room_calling (g := g) (R' := (headSpec ws rm).room) hsize hmY hcY hframes (by rw [hlY]; omega) h4 h5) h1
  obtain ⟨mid, hmid⟩ := h.above
  have hfr : (U.setTop g).frames = (.java g :: mid) ++ below := by rw [State.frames_setTop' g h.top, hmid]; rfl
  obtain ⟨o, s₂, hsteps, -, hend, hq⟩ := Steps.callFree hM p X.admits X.cas X.clock (acts := []) hfr happ hPc trivial
  have hq' : vx_Q Qc XC mc ms free a (U.calling g mk a) o s₂ := hq
  rw [State.frames_setTop' g h.top] at hend
  obtain ⟨g₀, hg0⟩ := Option.isSome_iff_exists.mp h.top
  obtain ⟨r, hr⟩ := State.topJava?_eq_some.mp hg0
  have hr' : (({ U with heap := s₂.heap, slotsUsed := s₂.slotsUsed } : State).setVm s₂.vm).frames = .java g₀ :: r := hr
  rcases hq' with ⟨hqc, L, hfe, hL⟩ | ⟨q, rfl, E, ce, L, hx, hce, hcv, hcl, hW₂, hsm, hL⟩
  · obtain ⟨⟨v, rfl⟩, hW₂, e2, q2, q3, q4, q5, q6⟩ := id hfe
    have e3 : s₂ = ({ (U.calling g mk a).setFrames s₂.frames with heap := s₂.heap, slotsUsed := s₂.slotsUsed } : State).setVm s₂.vm := by
      have : s₂ = ({ s₂ with vm := (U.calling g mk a).vm } : State).setVm s₂.vm := rfl
      rw [e2] at this
      exact this
    obtain ⟨c₂, i₂, len₂, hc₂, hd₂, hf₂⟩ := hend
    have hW' : U.WarmedH s₂.vm := hW₂
    have hcc : c₂ = c := by
      have h1 : s₂.code? g.method = U.code? g.method := by
        rw [State.code?_eq, State.code?_eq, hW'.alike.method?]
      exact Option.some.inj (hc₂.symm.trans (h1.trans h.code))
    subst hcc
    have hlen : len₂ = len := by rw [hdg] at hd₂; cases hd₂; rfl
    subst hlen
    have hs₂ : s₂ = (({ U with heap := s₂.heap, slotsUsed := s₂.slotsUsed } : State).setVm s₂.vm).setTop { g with pc := g.pc + len₂, stack := v.toList ++ g.stack } := by
      refine e3.trans ?_
      rw [hf₂, State.calling_eq h.top, State.setFrames_setFrames, State.setTop_of_frames _ hr', hr]
      rfl
    have hsame : U.sameButNew ({ U with heap := s₂.heap, slotsUsed := s₂.slotsUsed } : State) L mc ms := by
      refine ⟨?_, q2, q3, q4, q5, q6⟩
      obtain ⟨t, ht, -⟩ := State.frames_cons hr
      show ({ U with heap := s₂.heap, slotsUsed := s₂.slotsUsed } : State) = { U.setFrames U.frames with heap := s₂.heap, slotsUsed := s₂.slotsUsed }
      rw [State.setFrames_self ht]
    subst hg
    refine Or.inl ⟨v, ⟨(({ U with heap := s₂.heap, slotsUsed := s₂.slotsUsed } : State).setVm s₂.vm), Ls ++ L, c0 + mc, s0 + ms⟩,
      ⟨X.admits, X.cas, X.clock, X.frames, X.room, X.hears, X.method, X.code, (X.here.setHeapUsed s₂.heap s₂.slotsUsed).setVm hW'.alike, X.tail, State.WarmedH.trans X.warmed hW', X.limits, X.bytes, X.same.trans (hsame.setVm s.vm)⟩,
      ⟨g, mk, s₂, L, rfl, rfl, hqc, rfl, hL, rfl, rfl⟩, ?_⟩
    show Steps p.tables e below _ ((({ U with heap := s₂.heap, slotsUsed := s₂.slotsUsed } : State).setVm s₂.vm).setTop { g with pc := g.pc + len₂, stack := v.toList ++ g.stack })
    rw [← hs₂]
    exact hsteps
  · obtain ⟨e2, q2, q3, q4, q5, q6⟩ := id hsm
    have e3 : s₂ = ({ (U.calling g mk a).setFrames s₂.frames with heap := s₂.heap, slotsUsed := s₂.slotsUsed } : State).setVm s₂.vm := by
      have : s₂ = ({ s₂ with vm := (U.calling g mk a).vm } : State).setVm s₂.vm := rfl
      rw [e2] at this
      exact this
    have hf₂ : s₂.frames = .throwing q :: .java g :: U.frames.tail := hend
    have hW' : U.WarmedH s₂.vm := hW₂
    have hs₂ : s₂ = ((({ U with heap := s₂.heap, slotsUsed := s₂.slotsUsed } : State).setVm s₂.vm).setTop g).pushFrame (.throwing q) := by
      refine e3.trans ?_
      rw [hf₂, State.calling_eq h.top, State.setFrames_setFrames, State.pushFrame, State.frames_setTop _ hr', State.setTop_of_frames _ hr', State.setFrames_setFrames, hr]
      rfl
    have hsame : U.sameButNew ({ U with heap := s₂.heap, slotsUsed := s₂.slotsUsed } : State) L mc ms := by
      refine ⟨?_, q2, q3, q4, q5, q6⟩
      obtain ⟨t, ht, -⟩ := State.frames_cons hr
      show ({ U with heap := s₂.heap, slotsUsed := s₂.slotsUsed } : State) = { U.setFrames U.frames with heap := s₂.heap, slotsUsed := s₂.slotsUsed }
      rw [State.setFrames_self ht]
    subst hg
    refine Or.inr ⟨q, ⟨(({ U with heap := s₂.heap, slotsUsed := s₂.slotsUsed } : State).setVm s₂.vm), Ls ++ L, c0 + mc, s0 + ms⟩,
      ⟨X.admits, X.cas, X.clock, X.frames, X.room, X.hears, X.method, X.code, (X.here.setHeapUsed s₂.heap s₂.slotsUsed).setVm hW'.alike, X.tail, State.WarmedH.trans X.warmed hW', X.limits, X.bytes, X.same.trans (hsame.setVm s.vm)⟩,
      ⟨g, mk, s₂, L, E, ce, rfl, rfl, hx, hce, hcv, hcl, rfl, hL, rfl, rfl⟩, ?_⟩
    show Steps p.tables e below _ (((({ U with heap := s₂.heap, slotsUsed := s₂.slotsUsed } : State).setVm s₂.vm).setTop g).pushFrame (.throwing q))
    rw [← hs₂]
    exact hsteps
end
variable {p : Program} {l : Launch} {e : Env} {R : Room} {s : State} {m : MethodId} {args : Array Value} {below : List Frame} {meth : Method} {c : Code} {T : State} {H : Heap} {locs : List Loc} {cells slots : Nat}
theorem vx_callVX (X : Stand p l e R s m args below meth c T locs cells slots) (hexec : p.tables.exec = Jvm.exec) {own C : String} {index : Nat} {y : MethodName} {bytes : ByteArray} {maxL : Nat} {ret : Option FieldType} {hh : List (Nat × Nat × Nat × Nat)}
    (hown : s.vm.findClass own = some m.cls) (hlink : (Cond.methodLink own index y).before args s = true) (hinst : (Cond.instanceMethod y).before args s = true) (hsel : (Cond.selects C y y).before args s = true)
    (hcode : (Cond.codeWith y bytes maxL ret hh).before args s = true) (hy : y.cls ≠ "java/lang/invoke/MethodHandle" ∧ y.cls ≠ "java/lang/invoke/VarHandle")
    {W9 : Nat} {Pre : Pt → Array Value → Prop} {Post : Pt → Array Value → Option Value → Pt → Prop} {PostX : Pt → Array Value → Addr → Pt → Prop} (hK : vx_Back l R p e below s args y 3 W9 Pre Post PostX)
    {b : Addr} {cellB : Cell} (hcell : T.heap[b]? = some cellB) (hobj : cellB.vm.isStatics = false) (hcls : s.vm.findClass C = some cellB.cls)
    {g : JFrame} (hg : g.method = m) (hsize : g.locals.size = c.maxLocals) {argsL rest : List Value} (hlen : ∀ sig, parseMethodDescriptor y.desc = some sig → argsL.length = sig.parameters.length)
    (hstack : g.stack = argsL.reverse ++ .ref b :: rest) (hW : 2 * g.monitorRoom + (rest.map fun v => v.category).sum ≤ W9) (hdg : decode c.code g.pc = .ok (.invokevirtual index, 3))
    (hpre : ∀ vm₁, s.WarmedH vm₁ → Pre ⟨T.setVm vm₁, locs, cells, slots⟩ (Value.ref b :: argsL).toArray) :
    (∃ (v : Option Value) (vm₁ : Vm) (B : Pt), s.WarmedH vm₁ ∧ Stand p l e R s m args below meth c B.U B.locs B.cells B.slots ∧ Post ⟨T.setVm vm₁, locs, cells, slots⟩ (Value.ref b :: argsL).toArray v B ∧
      ∀ target, Steps p.tables e below (B.U.setTop { g with pc := g.pc + 3, stack := v.toList ++ rest }) target → Steps p.tables e below (T.setTop g) target) ∨
    (∃ (q : Addr) (vm₁ : Vm) (B : Pt), s.WarmedH vm₁ ∧ Stand p l e R s m args below meth c B.U B.locs B.cells B.slots ∧ PostX ⟨T.setVm vm₁, locs, cells, slots⟩ (Value.ref b :: argsL).toArray q B ∧
      Steps p.tables e below (T.setTop g) ((B.U.setTop { g with stack := rest }).pushFrame (.throwing q))) := by
  obtain ⟨mk, methM, hnamed, hmethM, hstM, habM⟩ := Cond.instanceMethod_spec hinst
  obtain ⟨m8, methM', cM, hn8, hmethM', -, -, -, -, -, -, hsigM⟩ := Cond.codeWith_spec hcode
  cases Option.some.inj (hn8.symm.trans hnamed)
  cases hmethM.symm.trans hmethM'
  obtain ⟨c2, r2, m2, q1, q2, q3, q4, kP, hkP, hkPi⟩ := Cond.selects_spec hsel
  cases hcls.symm.trans q1
  cases (State.methodFound?_of_named hnamed hy).symm.trans q2
  cases hnamed.symm.trans q3
  have hselP : selectMethod e.platform s.vm cellB.cls mk = .method mk := by rw [Launch.admits_selectMethod X.admits]; exact q4
  obtain ⟨vm₁, X₁, hstep₁⟩ := X.invokevirtual hexec hown hlink hnamed hmethM hstM hkP hkPi hy (a := b) (cell := cellB) hcell
    (fun z h => by rw [h] at hobj; cases hobj) hselP hmethM habM hkP hkPi (g := g) hg (argsL := argsL) (rest := rest) (hlen _ hsigM) hstack hdg
  rcases hK m meth c ⟨T.setVm vm₁, locs, cells, slots⟩ { g with stack := rest } (.invokevirtual index) mk (Value.ref b :: argsL).toArray X₁ hg hsize hdg hW (X₁.named hnamed) (hpre vm₁ X₁.warmed) with ⟨v, B, X', hpost, hsteps⟩ | ⟨q, B, X', hpost, hsteps⟩
  · exact Or.inl ⟨v, vm₁, B, X₁.warmed, X', hpost, fun target h => hstep₁ _ fun acts => by rw [doInvoke_state]; exact hsteps.trans h⟩
  · exact Or.inr ⟨q, vm₁, B, X₁.warmed, X', hpost, hstep₁ _ fun acts => by rw [doInvoke_state]; exact hsteps⟩
theorem vx_callSX (X : Stand p l e R s m args below meth c T locs cells slots) (hexec : p.tables.exec = Jvm.exec) {own : String} {index : Nat} {y : MethodName} {bytes : ByteArray} {maxL : Nat} {ret : Option FieldType} {hh : List (Nat × Nat × Nat × Nat)}
    (hown : s.vm.findClass own = some m.cls) (hlink : (Cond.methodLink own index y).before args s = true) (hstat : (Cond.static y).before args s = true) (hinit : (Cond.initialized y.cls).before args s = true)
    (hcode : (Cond.codeWith y bytes maxL ret hh).before args s = true) (hy : y.cls ≠ "java/lang/invoke/MethodHandle" ∧ y.cls ≠ "java/lang/invoke/VarHandle")
    {W9 : Nat} {Pre : Pt → Array Value → Prop} {Post : Pt → Array Value → Option Value → Pt → Prop} {PostX : Pt → Array Value → Addr → Pt → Prop} (hK : vx_Back l R p e below s args y 3 W9 Pre Post PostX)
    {g : JFrame} (hg : g.method = m) (hsize : g.locals.size = c.maxLocals) {argsL rest : List Value} (hlen : ∀ sig, parseMethodDescriptor y.desc = some sig → argsL.length = sig.parameters.length)
    (hstack : g.stack = argsL.reverse ++ rest) (hW : 2 * g.monitorRoom + (rest.map fun v => v.category).sum ≤ W9) (hdg : decode c.code g.pc = .ok (.invokestatic index, 3))
    (hpre : ∀ vm₁, s.WarmedH vm₁ → Pre ⟨T.setVm vm₁, locs, cells, slots⟩ argsL.toArray) :
    (∃ (v : Option Value) (vm₁ : Vm) (B : Pt), s.WarmedH vm₁ ∧ Stand p l e R s m args below meth c B.U B.locs B.cells B.slots ∧ Post ⟨T.setVm vm₁, locs, cells, slots⟩ argsL.toArray v B ∧
      ∀ target, Steps p.tables e below (B.U.setTop { g with pc := g.pc + 3, stack := v.toList ++ rest }) target → Steps p.tables e below (T.setTop g) target) ∨
    (∃ (q : Addr) (vm₁ : Vm) (B : Pt), s.WarmedH vm₁ ∧ Stand p l e R s m args below meth c B.U B.locs B.cells B.slots ∧ PostX ⟨T.setVm vm₁, locs, cells, slots⟩ argsL.toArray q B ∧
      Steps p.tables e below (T.setTop g) ((B.U.setTop { g with stack := rest }).pushFrame (.throwing q))) := by
  obtain ⟨mk, methM, cM, hnamed, hmethM, -, -, -, -, -, -, hsigM⟩ := Cond.codeWith_spec hcode
  have hstatic : methM.isStatic = true := Cond.static_spec hnamed hmethM hstat
  obtain ⟨kP, hkP, -⟩ := className_of_methodNamed hnamed
  have hinitP : kP.init = .initialized := Cond.initialized_spec (findClass_of_methodNamed hnamed) hkP hinit
  obtain ⟨vm₁, X₁, hstep₁⟩ := X.invokestatic hexec hown hlink hnamed hmethM hstatic hkP hinitP hy (g := g) hg (argsL := argsL) (rest := rest) (hlen _ hsigM) hstack hdg
  rcases hK m meth c ⟨T.setVm vm₁, locs, cells, slots⟩ { g with stack := rest } (.invokestatic index) mk argsL.toArray X₁ hg hsize hdg hW (X₁.named hnamed) (hpre vm₁ X₁.warmed) with ⟨v, B, X', hpost, hsteps⟩ | ⟨q, B, X', hpost, hsteps⟩
  · exact Or.inl ⟨v, vm₁, B, X₁.warmed, X', hpost, fun target h => hstep₁ _ fun acts => by rw [doInvoke_state]; exact hsteps.trans h⟩
  · exact Or.inr ⟨q, vm₁, B, X₁.warmed, X', hpost, hstep₁ _ fun acts => by rw [doInvoke_state]; exact hsteps⟩
theorem vx_callVW (X : Stand p l e R s m args below meth c T locs cells slots) (hexec : p.tables.exec = Jvm.exec) {own C : String} {index : Nat} {y : MethodName} {bytes : ByteArray} {maxL : Nat} {ret : Option FieldType} {hh : List (Nat × Nat × Nat × Nat)}
    (hown : s.vm.findClass own = some m.cls) (hlink : (Cond.methodLink own index y).before args s = true) (hinst : (Cond.instanceMethod y).before args s = true) (hsel : (Cond.selects C y y).before args s = true)
    (hcode : (Cond.codeWith y bytes maxL ret hh).before args s = true) (hy : y.cls ≠ "java/lang/invoke/MethodHandle" ∧ y.cls ≠ "java/lang/invoke/VarHandle")
    {W9 : Nat} {Pre : Pt → Array Value → Prop} {Post : Pt → Array Value → Option Value → Pt → Prop} (hK : Back l R p e below s args y 3 W9 Pre Post)
    {b : Addr} {cellB : Cell} (hcell : T.heap[b]? = some cellB) (hobj : cellB.vm.isStatics = false) (hcls : s.vm.findClass C = some cellB.cls)
    {g : JFrame} (hg : g.method = m) (hsize : g.locals.size = c.maxLocals) {argsL rest : List Value} (hlen : ∀ sig, parseMethodDescriptor y.desc = some sig → argsL.length = sig.parameters.length)
    (hstack : g.stack = argsL.reverse ++ .ref b :: rest) (hW : 2 * g.monitorRoom + (rest.map fun v => v.category).sum ≤ W9) (hdg : decode c.code g.pc = .ok (.invokevirtual index, 3))
    (hpre : ∀ vm₁, s.WarmedH vm₁ → Pre ⟨T.setVm vm₁, locs, cells, slots⟩ (Value.ref b :: argsL).toArray) :
    ∃ (v : Option Value) (vm₁ : Vm) (B : Pt), s.WarmedH vm₁ ∧ Stand p l e R s m args below meth c B.U B.locs B.cells B.slots ∧ Post ⟨T.setVm vm₁, locs, cells, slots⟩ (Value.ref b :: argsL).toArray v B ∧
      ∀ target, Steps p.tables e below (B.U.setTop { g with pc := g.pc + 3, stack := v.toList ++ rest }) target → Steps p.tables e below (T.setTop g) target := by
  obtain ⟨mk, methM, hnamed, hmethM, hstM, habM⟩ := Cond.instanceMethod_spec hinst
  obtain ⟨m8, methM', cM, hn8, hmethM', -, -, -, -, -, -, hsigM⟩ := Cond.codeWith_spec hcode
  cases Option.some.inj (hn8.symm.trans hnamed)
  cases hmethM.symm.trans hmethM'
  obtain ⟨c2, r2, m2, q1, q2, q3, q4, kP, hkP, hkPi⟩ := Cond.selects_spec hsel
  cases hcls.symm.trans q1
  cases (State.methodFound?_of_named hnamed hy).symm.trans q2
  cases hnamed.symm.trans q3
  have hselP : selectMethod e.platform s.vm cellB.cls mk = .method mk := by rw [Launch.admits_selectMethod X.admits]; exact q4
  obtain ⟨vm₁, X₁, hstep₁⟩ := X.invokevirtual hexec hown hlink hnamed hmethM hstM hkP hkPi hy (a := b) (cell := cellB) hcell
    (fun z h => by rw [h] at hobj; cases hobj) hselP hmethM habM hkP hkPi (g := g) hg (argsL := argsL) (rest := rest) (hlen _ hsigM) hstack hdg
  obtain ⟨v, B, X', hpost, hsteps⟩ := hK m meth c ⟨T.setVm vm₁, locs, cells, slots⟩ { g with stack := rest } (.invokevirtual index) mk (Value.ref b :: argsL).toArray X₁ hg hsize hdg hW (X₁.named hnamed) (hpre vm₁ X₁.warmed)
  exact ⟨v, vm₁, B, X₁.warmed, X', hpost, fun target h => hstep₁ _ fun acts => by rw [doInvoke_state]; exact hsteps.trans h⟩
abbrev vx_CVW (R : Room) (s : State) (args : Array Value) (own C : String) (index : Nat) (y : MethodName) (bytes : ByteArray) (maxL : Nat) (ret : Option FieldType) (hh : List (Nat × Nat × Nat × Nat)) (ws : List Cond) (rm : Room) (mc ms n : Nat) : Prop :=
  (rm.cells = mc ∧ rm.slots = ms ∧ rm.frames + 1 ≤ R.frames ∧ 8 + (maxL + 11) + rm.locals ≤ R.locals ∧ (∀ w ∈ ws, ∀ (a' : Array Value) (U : State), s.WarmedH U.vm → w.before a' U = true) ∧ Cond.codeWith y bytes maxL ret hh ∈ ws) ∧
  (Cond.codeWith y bytes maxL ret hh).before args s = true ∧ (Cond.initialized y.cls).before args s = true ∧ (y.cls ≠ "java/lang/invoke/MethodHandle" ∧ y.cls ≠ "java/lang/invoke/VarHandle") ∧
  (∀ sig, parseMethodDescriptor y.desc = some sig → n = sig.parameters.length) ∧ (Cond.methodLink own index y).before args s = true ∧ (Cond.instanceMethod y).before args s = true ∧ (Cond.selects C y y).before args s = true
theorem vx_cwVW {own C : String} {index maxL mc ms : Nat} {y : MethodName} {bytes : ByteArray} {ret : Option FieldType} {hh : List (Nat × Nat × Nat × Nat)} {Ts ws ws' : List Cond} {rm : Room} (n : Nat) (ht : ∀ w ∈ Ts, w.before args s = true) (hT : GoodIn Ts (wsV own index C y ws)) (hw : ws = Cond.codeWith y bytes maxL ret hh :: ws') (hrc : rm.cells = mc) (hrs : rm.slots = ms)
    (hd : y.cls = C ∧ y.cls ≠ "java/lang/invoke/MethodHandle" ∧ y.cls ≠ "java/lang/invoke/VarHandle" ∧ (parseMethodDescriptor y.desc).map (fun d => d.parameters.length) = some n) (hR : rm.frames + 1 ≤ R.frames ∧ 8 + (maxL + 11) + rm.locals ≤ R.locals) :
    vx_CVW R s args own C index y bytes maxL ret hh ws rm mc ms n := by
  obtain ⟨hC, hd⟩ := hd
  subst hC
  have ok : ∀ w ∈ wsV own index y.cls y ws, w.before args s = true := fun w h => ht w (hT w h).1
  have hG : GoodIn Ts ws := fun w h => hT w (by unfold wsV; exact List.mem_append_right _ h)
  have hc : Cond.codeWith y bytes maxL ret hh ∈ ws := by rw [hw]; exact List.mem_cons_self
  refine ⟨⟨hrc, hrs, hR.1, hR.2, pay_in ht hG, hc⟩, ht _ (hG _ hc).1, ok _ (by simp [wsV]), ⟨hd.1, hd.2.1⟩, fun sig h => ?_, ok _ (by simp [wsV]), ok _ (by simp [wsV]), ok _ (by simp [wsV])⟩
  have h2 := hd.2.2
  rw [h] at h2
  exact (Option.some.inj h2).symm
theorem vx_runVW {y : MethodName} {bytes cc : ByteArray} {maxL nL mc ms n index : Nat} {ret : Option FieldType} {hh : List (Nat × Nat × Nat × Nat)} {ws : List Cond} {rm : Room} {Pc : Array Value → State → Prop} {Qc : Array Value → State → Outcome → State → Prop} {free : Addr → Prop} {Ts : List Cond} {own C : String} {b : Addr} {As rest : List Value} {g : JFrame}
    (S : CallFix p m c cc nL s args Ts own) (hM : Met l y ws rm Pc Qc mc ms free) (cw : vx_CVW R s args own C index y bytes maxL ret hh ws rm mc ms n) (hp : PreV s H C b Pc As)
    (hg : g.method = m) (hn : As.length = n) (hsize : g.locals.size = nL) (hstack : g.stack = As.reverse ++ .ref b :: rest) (hW : 2 * g.monitorRoom + (rest.map fun v => v.category).sum ≤ 8) (hdg : decode cc g.pc = .ok (.invokevirtual index, 3)) (hf : cells + mc ≤ R.cells ∧ slots + ms ≤ R.slots) :
    va_Run p l e R s m args below meth c H locs cells slots mc ms g rest (Qc (Value.ref b :: As).toArray) free := by
  obtain ⟨⟨hrc, hrs, hfr, hlo, hws, hcw⟩, hcode, hini, hy, hlen, hl, hin, hse⟩ := cw
  have hK : Back l R p e below s args y 3 8 (PreOf R mc ms Pc) (PostOf Qc mc ms free) := va_backW (hh := hh) (bytes := bytes) (maxL := maxL) (ret := ret) hM hp.1 hrc hrs hfr hlo hws hcw (fun a' U hW => word_at hW (Or.inl (by first | rfl | simp [Cond.onTables, Cond.keeps, Cond.steady])) hini)
  obtain ⟨hx, hb, hml, ho, -⟩ := S
  obtain ⟨-, ⟨cellB, hcB, hoB, hclB⟩, hPc⟩ := hp
  intro T hT X
  obtain ⟨v, vm₁, ⟨U', l2, c2, s2⟩, hW₁, X', ⟨g', mk, t, L, e1, e2, hq, h1, hL, h2, h3⟩, st⟩ := vx_callVW X hx (C := C) (hh := hh) (bytes := bytes) (maxL := maxL) (ret := ret) ho hl hin hse hcode hy hK (by rw [hT]; exact hcB) hoB hclB hg (hsize.trans hml.symm) (argsL := As) (rest := rest) (fun sig h => hn.trans (hlen sig h)) hstack hW (by rw [hb]; exact hdg)
    (fun vm₁ hW₁ => ⟨hf.1, hf.2, hPc (T.setVm vm₁) hT hW₁⟩)
  dsimp only [Pt.U, Pt.locs, Pt.cells, Pt.slots] at X' e1 e2 h1 h2 h3 st
  subst h1; subst h2; subst h3
  exact ⟨v, (T.setVm vm₁).calling g' mk (Value.ref b :: As).toArray, t, U', L, hT, X', hL, e1, e2, hq, st⟩
section
variable {y : MethodName} {bytes cc : ByteArray} {maxL nL mc ms n index : Nat} {ret : Option FieldType} {ws : List Cond} {rm : Room} {Pc : Array Value → State → Prop} {Qc : Array Value → State → Outcome → State → Prop} {XC : String → State → State → Prop} {free : Addr → Prop} {Ts : List Cond} {own C : String} {b : Addr} {As rest : List Value} {g : JFrame}
theorem vx_runVX {hh : List (Nat × Nat × Nat × Nat)} (S : CallFix p m c cc nL s args Ts own) (hM : vx_Met l y ws rm Pc Qc XC mc ms free) (cw : vx_CVW R s args own C index y bytes maxL ret hh ws rm mc ms n) (hp : PreV s H C b Pc As)
    (hg : g.method = m) (hn : As.length = n) (hsize : g.locals.size = nL) (hstack : g.stack = As.reverse ++ .ref b :: rest) (hW : 2 * g.monitorRoom + (rest.map fun v => v.category).sum ≤ 8) (hdg : decode cc g.pc = .ok (.invokevirtual index, 3)) (hf : cells + mc ≤ R.cells ∧ slots + ms ≤ R.slots) :
    vx_Run p l e R s m args below meth c H locs cells slots mc ms g rest (Qc (Value.ref b :: As).toArray) XC free := by
  obtain ⟨⟨hrc, hrs, hfr, hlo, hws, hcw⟩, hcode, hini, hy, hlen, hl, hin, hse⟩ := cw
  have hK : vx_Back l R p e below s args y 3 8 (PreOf R mc ms Pc) (PostOf Qc mc ms free) (vx_Post XC mc ms free) := vx_backW (hh := hh) (bytes := bytes) (maxL := maxL) (ret := ret) hM hp.1 hrc hrs hfr hlo hws hcw (fun a' U hW => word_at hW (Or.inl (by first | rfl | simp [Cond.onTables, Cond.keeps, Cond.steady])) hini)
  obtain ⟨hx, hb, hml, ho, -⟩ := S
  obtain ⟨-, ⟨cellB, hcB, hoB, hclB⟩, hPc⟩ := hp
  intro T hT X
  rcases vx_callVX X hx (C := C) (hh := hh) (bytes := bytes) (maxL := maxL) (ret := ret) ho hl hin hse hcode hy hK (by rw [hT]; exact hcB) hoB hclB hg (hsize.trans hml.symm) (argsL := As) (rest := rest) (fun sig h => hn.trans (hlen sig h)) hstack hW (by rw [hb]; exact hdg)
    (fun vm₁ hW₁ => ⟨hf.1, hf.2, hPc (T.setVm vm₁) hT hW₁⟩) with ⟨v, vm₁, ⟨U', l2, c2, s2⟩, hW₁, X', ⟨g', mk, t, L, e1, e2, hq, h1, hL, h2, h3⟩, st⟩ | ⟨q, vm₁, ⟨U', l2, c2, s2⟩, hW₁, X', ⟨g', mk, t, L, E, ce, e1, e2, hq, hce, hcv, hcl, h1, hL, h2, h3⟩, st⟩
  · dsimp only [Pt.U, Pt.locs, Pt.cells, Pt.slots] at X' e1 e2 h1 h2 h3 st
    subst h1; subst h2; subst h3
    exact Or.inl ⟨v, (T.setVm vm₁).calling g' mk (Value.ref b :: As).toArray, t, U', L, hT, X', hL, e1, e2, hq, st⟩
  · dsimp only [Pt.U, Pt.locs, Pt.cells, Pt.slots] at X' e1 e2 h1 h2 h3 st hcl
    subst h1; subst h2; subst h3
    exact Or.inr ⟨q, (T.setVm vm₁).calling g' mk (Value.ref b :: As).toArray, t, U', L, E, ce, hT, X', hL, e1, e2, hq, hce, hcv, vx_cls hW₁ hcl, st⟩
theorem vx_runSX {hh : List (Nat × Nat × Nat × Nat)} (S : CallFix p m c cc nL s args Ts own) (hM : vx_Met l y ws rm Pc Qc XC mc ms free) (cw : vx_CSW R s args own index y bytes maxL ret hh ws rm mc ms n) (hp : PreS s H Pc As)
    (hg : g.method = m) (hn : As.length = n) (hsize : g.locals.size = nL) (hstack : g.stack = As.reverse ++ rest) (hW : 2 * g.monitorRoom + (rest.map fun v => v.category).sum ≤ 8) (hdg : decode cc g.pc = .ok (.invokestatic index, 3)) (hf : cells + mc ≤ R.cells ∧ slots + ms ≤ R.slots) :
    vx_Run p l e R s m args below meth c H locs cells slots mc ms g rest (Qc As.toArray) XC free := by
  obtain ⟨⟨hrc, hrs, hfr, hlo, hws, hcw⟩, hcode, hini, hy, hlen, hl, hstt⟩ := cw
  have hK : vx_Back l R p e below s args y 3 8 (PreOf R mc ms Pc) (PostOf Qc mc ms free) (vx_Post XC mc ms free) := vx_backW (hh := hh) (bytes := bytes) (maxL := maxL) (ret := ret) hM hp.1 hrc hrs hfr hlo hws hcw (fun a' U hW => word_at hW (Or.inl (by first | rfl | simp [Cond.onTables, Cond.keeps, Cond.steady])) hini)
  obtain ⟨hx, hb, hml, ho, -⟩ := S
  intro T hT X
  rcases vx_callSX X hx (hh := hh) (bytes := bytes) (maxL := maxL) (ret := ret) ho hl hstt hini hcode hy hK hg (hsize.trans hml.symm) (argsL := As) (rest := rest) (fun sig h => hn.trans (hlen sig h)) hstack hW (by rw [hb]; exact hdg)
    (fun vm₁ hW₁ => ⟨hf.1, hf.2, hp.2 (T.setVm vm₁) hT hW₁⟩) with ⟨v, vm₁, ⟨U', l2, c2, s2⟩, hW₁, X', ⟨g', mk, t, L, e1, e2, hq, h1, hL, h2, h3⟩, st⟩ | ⟨q, vm₁, ⟨U', l2, c2, s2⟩, hW₁, X', ⟨g', mk, t, L, E, ce, e1, e2, hq, hce, hcv, hcl, h1, hL, h2, h3⟩, st⟩
  · dsimp only [Pt.U, Pt.locs, Pt.cells, Pt.slots] at X' e1 e2 h1 h2 h3 st
    subst h1; subst h2; subst h3
    exact Or.inl ⟨v, (T.setVm vm₁).calling g' mk As.toArray, t, U', L, hT, X', hL, e1, e2, hq, st⟩
  · dsimp only [Pt.U, Pt.locs, Pt.cells, Pt.slots] at X' e1 e2 h1 h2 h3 st hcl
    subst h1; subst h2; subst h3
    exact Or.inr ⟨q, (T.setVm vm₁).calling g' mk As.toArray, t, U', L, E, ce, hT, X', hL, e1, e2, hq, hce, hcv, vx_cls hW₁ hcl, st⟩
end
end VXH
theorem vx_ofWH {l : Launch} {y : MethodName} {ws ws' : List Cond} {rm : Room} {Pc : Array Value → State → Prop} {Qc : Array Value → State → Outcome → State → Prop} {XC : String → State → State → Prop} {mc ms : Nat} {free : Addr → Prop} {cc : ByteArray} {maxL : Nat} {ret : Option FieldType} {hh : List (Nat × Nat × Nat × Nat)}
    (hy : plainName y.cls = true) (hw : ws = Cond.codeWith y cc maxL ret hh :: ws')
    (body : ∀ p e s m args below meth c s₁, BodyLoose p l y (headSpec ws rm) cc maxL ret e s m args below meth c s₁ → c.maxLocals = maxL → Pc args s →
      W p l e (headSpec ws rm).room s m args below meth c s.heap [] 0 0 (vx_MQ below Qc XC args s mc ms free) (entryFrame m args maxL)) : vx_Met l y ws rm Pc Qc XC mc ms free := by
  refine MetFree.of_bodyS (code := cc) (maxLocals := maxL) (ret := ret) hy ?_ ?_
  · intro args s m h hn
    obtain ⟨m9, meth, c, hn9, h1, h2, h3, h4, -, h5, h6, -⟩ := Cond.codeWith_spec (atoms_spec (ws := ws) h _ (by rw [hw]; exact List.mem_cons_self))
    cases hn.symm.trans hn9
    exact ⟨meth, c, h1, h2, h3, h4, h5, h6⟩
  · intro p e s m args below meth c s₁ B hml hP _
    have hh0 : s₁.heap = s.heap := by rw [B.state]; rfl
    obtain ⟨t, a1, o, b1, b2, b3⟩ := body p e s m args below meth c s₁ B hml hP s₁ hh0 (Stand.of_body B)
    exact ⟨t, o, a1, b1, b2, b3⟩
/-! ===== END ===== -/
end
section
/-! The abstract machine. A heap is a list of cells; a value .ref k is its k-th cell, .retAddr k the k-th special cell (0: the script). A state: pc, locals, stack, heap, cells left, slots left. A result: the value returned or the class thrown, and the heap. An instruction is what must hold at a state so that the next ones (K), the end (Q), a call (C) are right. -/
abbrev gx_E : Type := (Nat × vp_A) ⊕ (Nat × List Value)
abbrev gx_H : Type := List gx_E
abbrev gx_S : Type := Nat × List (Option Value) × List Value × gx_H × Nat × Nat
abbrev gx_R : Type := (Option Value ⊕ String) × gx_H
abbrev gx_T : Type := gx_S → (gx_S → Prop) → (gx_R → Prop) → (Nat → gx_S → (gx_R → Prop) → Prop) → Prop
abbrev gx_P : Type := Nat → Nat → Option gx_T
abbrev gx_F : Type := Nat → Nat → gx_S → (gx_R → Prop) → Prop
def gx_mono (F : gx_F) : Prop := ∀ (d m : Nat) (S : gx_S) (Q Q' : gx_R → Prop), (∀ r, Q r → Q' r) → F d m S Q → F d m S Q'
def gx_closed (P : gx_P) (F : gx_F) : Prop := ∀ (d m : Nat) (S : gx_S) (Q : gx_R → Prop) (T : gx_T) (K : gx_S → Prop) (C : Nat → gx_S → (gx_R → Prop) → Prop), P m S.1 = some T → T S K Q C → (∀ S', K S' → F d m S' Q) → (∀ m' E Q', C m' E Q' → ∃ d', d = d' + 1 ∧ F d' m' E Q') → F d m S Q
/-- method m of P, at the state S with d frames left, comes to a result with Q -/
def gx_X (P : gx_P) (d m : Nat) (S : gx_S) (Q : gx_R → Prop) : Prop := ∀ F : gx_F, gx_mono F → gx_closed P F → F d m S Q
theorem gx_X.mono {P : gx_P} {d m : Nat} {S : gx_S} {Q Q' : gx_R → Prop} (h : gx_X P d m S Q) (hq : ∀ r, Q r → Q' r) : gx_X P d m S Q' := fun F hm hc => hm d m S Q Q' hq (h F hm hc)
theorem gx_X.intro {P : gx_P} {d m : Nat} {S : gx_S} {Q : gx_R → Prop} {T : gx_T} {K : gx_S → Prop} {C : Nat → gx_S → (gx_R → Prop) → Prop} (hT : P m S.1 = some T) (h : T S K Q C) (hK : ∀ S', K S' → gx_X P d m S' Q) (hC : ∀ m' E Q', C m' E Q' → ∃ d', d = d' + 1 ∧ gx_X P d' m' E Q') : gx_X P d m S Q :=
  fun F hm hc => hc d m S Q T K C hT h (fun S' k => hK S' k F hm hc) (fun m' E Q' k => by
    obtain ⟨d', e, x⟩ := hC m' E Q' k
    exact ⟨d', e, x F hm hc⟩)
theorem gx_X.deep {P : gx_P} {d m : Nat} {S : gx_S} {Q : gx_R → Prop} (h : gx_X P d m S Q) : gx_X P (d + 1) m S Q := by
  refine h (fun d m S Q => gx_X P (d + 1) m S Q) (fun d m S Q Q' hq k => k.mono hq) ?_
  intro d m S Q T K C hT hS hK hC
  refine gx_X.intro hT hS hK (fun m' E Q' k => ?_)
  obtain ⟨d', e, x⟩ := hC m' E Q' k
  exact ⟨d' + 1, by omega, x⟩
theorem gx_X.deeper {P : gx_P} {d m : Nat} {S : gx_S} {Q : gx_R → Prop} (h : gx_X P d m S Q) (k : Nat) : gx_X P (d + k) m S Q := by
  induction k with
  | zero => exact h
  | succ k ih => exact ih.deep
theorem gx_X.le {P : gx_P} {d d' m : Nat} {S : gx_S} {Q : gx_R → Prop} (h : gx_X P d m S Q) (hd : d ≤ d') : gx_X P d' m S Q := by
  have h1 := h.deeper (d' - d)
  rw [show d + (d' - d) = d' by omega] at h1
  exact h1
def gx_isin (p : Nat) : List Nat → Bool
  | [] => false
  | q :: r => match Nat.beq p q with
    | true => true
    | false => gx_isin p r
/-- instructions at once, k at most, up to one of the stops -/
def gx_bs (P : gx_P) (d m : Nat) (stop : List Nat) (Q : gx_R → Prop) : Nat → gx_S → Prop
  | 0, S => gx_X P (d + 1) m S Q
  | k + 1, S => match P m S.1 with
    | some T => T S (fun S' => match gx_isin S'.1 stop with
      | true => gx_X P (d + 1) m S' Q
      | false => gx_bs P d m stop Q k S') Q (fun m' E Q' => gx_X P d m' E Q')
    | none => False
theorem gx_X.bs {P : gx_P} {d m : Nat} {Q : gx_R → Prop} (stop : List Nat) : ∀ (k : Nat) {S : gx_S}, gx_bs P d m stop Q k S → gx_X P (d + 1) m S Q
  | 0, S, h => h
  | k + 1, S, h => by
    have h1 : (match P m S.1 with
      | some T => T S (fun S' => match gx_isin S'.1 stop with
        | true => gx_X P (d + 1) m S' Q
        | false => gx_bs P d m stop Q k S') Q (fun m' E Q' => gx_X P d m' E Q')
      | none => False) := h
    cases hT : P m S.1 with
    | none =>
      rw [hT] at h1
      exact False.elim h1
    | some T =>
      rw [hT] at h1
      refine gx_X.intro hT h1 (fun S' hk => ?_) (fun m' E Q' hc => ⟨d, rfl, hc⟩)
      cases hi : gx_isin S'.1 stop with
      | true => rw [hi] at hk; exact hk
      | false => rw [hi] at hk; exact gx_X.bs stop k hk
/-- a table of instructions by their pc -/
def gx_find (pc : Nat) : List (Nat × gx_T) → Option gx_T
  | [] => none
  | q :: r => match Nat.beq q.1 pc with
    | true => some q.2
    | false => gx_find pc r
theorem gx_find_mem {pc : Nat} {T : gx_T} : ∀ {l : List (Nat × gx_T)}, gx_find pc l = some T → (pc, T) ∈ l
  | [], h => by cases h
  | q :: r, h => by
    have h1 : (match Nat.beq q.1 pc with
      | true => some q.2
      | false => gx_find pc r) = some T := h
    cases hb : Nat.beq q.1 pc with
    | true =>
      rw [hb] at h1
      have e1 : q.1 = pc := Nat.eq_of_beq_eq_true hb
      have e2 : q.2 = T := Option.some.inj h1
      rw [← e1, ← e2]
      exact List.mem_cons_self
    | false =>
      rw [hb] at h1
      exact List.mem_cons_of_mem _ (gx_find_mem h1)
-- the instructions
def gx_isI : Value → Bool
  | .int _ => true
  | _ => false
def gx_isR : Value → Bool
  | .ref _ => true
  | .null => true
  | .retAddr _ => true
  | _ => false
def gi_ld (kd : Value → Bool) (i nx : Nat) : gx_T := fun S K _ _ => match S with
  | (_, lv, st, h, bc, bs) => match lv[i]? with
    | some (some v) => match kd v with
      | true => K (nx, lv, v :: st, h, bc, bs)
      | false => False
    | _ => False
def gi_k (v : Value) (nx : Nat) : gx_T := fun S K _ _ => match S with
  | (_, lv, st, h, bc, bs) => K (nx, lv, v :: st, h, bc, bs)
def gi_st (kd : Value → Bool) (i nx : Nat) : gx_T := fun S K _ _ => match S with
  | (_, lv, v :: st, h, bc, bs) => match lv[i]? with
    | some _ => match kd v with
      | true => K (nx, lv.set i (some v), st, h, bc, bs)
      | false => False
    | none => False
  | _ => False
def gi_inc (i : Nat) (n : Int32) (nx : Nat) : gx_T := fun S K _ _ => match S with
  | (_, lv, st, h, bc, bs) => match lv[i]? with
    | some (some (.int x)) => K (nx, lv.set i (some (.int (x + n))), st, h, bc, bs)
    | _ => False
def gi_un (f : Int32 → Int32) (nx : Nat) : gx_T := fun S K _ _ => match S with
  | (_, lv, .int x :: st, h, bc, bs) => K (nx, lv, .int (f x) :: st, h, bc, bs)
  | _ => False
def gi_bin (f : Int32 → Int32 → Int32) (nx : Nat) : gx_T := fun S K _ _ => match S with
  | (_, lv, .int y :: .int x :: st, h, bc, bs) => K (nx, lv, .int (f x y) :: st, h, bc, bs)
  | _ => False
def gi_div (f : Int32 → Int32 → Int32) (nx : Nat) : gx_T := fun S K _ _ => match S with
  | (_, lv, .int y :: .int x :: st, h, bc, bs) => ¬ y = 0 ∧ K (nx, lv, .int (f x y) :: st, h, bc, bs)
  | _ => False
def gi_goto (tg : Nat) : gx_T := fun S K _ _ => match S with
  | (_, lv, st, h, bc, bs) => K (tg, lv, st, h, bc, bs)
def gi_if (ct cf : Int32 → Prop) (tg nx : Nat) : gx_T := fun S K _ _ => match S with
  | (_, lv, .int x :: st, h, bc, bs) => (ct x → K (tg, lv, st, h, bc, bs)) ∧ (cf x → K (nx, lv, st, h, bc, bs))
  | _ => False
def gi_cmp (ct cf : Int32 → Int32 → Prop) (tg nx : Nat) : gx_T := fun S K _ _ => match S with
  | (_, lv, .int y :: .int x :: st, h, bc, bs) => (ct x y → K (tg, lv, st, h, bc, bs)) ∧ (cf x y → K (nx, lv, st, h, bc, bs))
  | _ => False
/-- ifnull: tn where it is null, tr where it is a cell -/
def gi_nul (tn tr : Nat) : gx_T := fun S K _ _ => match S with
  | (_, lv, .null :: st, h, bc, bs) => K (tn, lv, st, h, bc, bs)
  | (_, lv, .ref _ :: st, h, bc, bs) => K (tr, lv, st, h, bc, bs)
  | _ => False
def gi_dup (nx : Nat) : gx_T := fun S K _ _ => match S with
  | (_, lv, v :: st, h, bc, bs) => match Nat.beq v.category 1 with
    | true => K (nx, lv, v :: v :: st, h, bc, bs)
    | false => False
  | _ => False
def gi_dup2 (nx : Nat) : gx_T := fun S K _ _ => match S with
  | (_, lv, v :: w :: st, h, bc, bs) => match Nat.beq v.category 1, Nat.beq w.category 1 with
    | true, true => K (nx, lv, v :: w :: v :: w :: st, h, bc, bs)
    | _, _ => False
  | _ => False
def gi_pop (nx : Nat) : gx_T := fun S K _ _ => match S with
  | (_, lv, v :: st, h, bc, bs) => match Nat.beq v.category 1 with
    | true => K (nx, lv, st, h, bc, bs)
    | false => False
  | _ => False
def gi_get (ci k nx : Nat) : gx_T := fun S K _ _ => match S with
  | (_, lv, .ref a :: st, h, bc, bs) => match h[a]? with
    | some (.inr (c, fs)) => match Nat.beq c ci, fs[k]? with
      | true, some v => K (nx, lv, v :: st, h, bc, bs)
      | _, _ => False
    | _ => False
  | _ => False
/-- what of a value tells whether a field takes it -/
def gx_r : Value → Value
  | .ref _ => .ref 0
  | .retAddr _ => .ref 0
  | v => v
def gi_put (ci k : Nat) (ty : FieldType) (nx : Nat) : gx_T := fun S K _ _ => match S with
  | (_, lv, v :: .ref a :: st, h, bc, bs) => match h[a]? with
    | some (.inr (c, fs)) => match Nat.beq c ci, fs[k]? with
      | true, some _ => (narrow ty (gx_r v) = gx_r v ∧ fits ty (gx_r v) = true) ∧ K (nx, lv, st, h.set a (.inr (c, fs.set k v)), bc, bs)
      | _, _ => False
    | _ => False
  | _ => False
/-- a field of type int -/
def gi_puti (ci k nx : Nat) : gx_T := fun S K _ _ => match S with
  | (_, lv, .int x :: .ref a :: st, h, bc, bs) => match h[a]? with
    | some (.inr (c, fs)) => match Nat.beq c ci, fs[k]? with
      | true, some _ => K (nx, lv, st, h.set a (.inr (c, fs.set k (.int x))), bc, bs)
      | _, _ => False
    | _ => False
  | _ => False
theorem gi_puti.to {ci k nx : Nat} {S : gx_S} {K : gx_S → Prop} {Q : gx_R → Prop} {C : Nat → gx_S → (gx_R → Prop) → Prop} (h : gi_puti ci k nx S K Q C) : gi_put ci k .int nx S K Q C := by
  obtain ⟨pc, lv, st, hp, bc, bs⟩ := S
  rcases st with _ | ⟨v, st⟩
  · exact False.elim h
  cases v with
  | int x =>
    rcases st with _ | ⟨v, st⟩
    · exact False.elim h
    cases v with
    | ref a =>
      cases hc : hp[a]? with
      | none => simp only [gi_puti, hc] at h
      | some ce =>
        obtain ⟨t0, x0⟩ | ⟨c0, fs⟩ := ce
        · simp only [gi_puti, hc] at h
        · cases hb : Nat.beq c0 ci with
          | false => simp only [gi_puti, hc, hb] at h
          | true =>
            cases hf : fs[k]? with
            | none => simp only [gi_puti, hc, hb, hf] at h
            | some w =>
              simp only [gi_puti, hc, hb, hf] at h
              simp only [gi_put, hc, hb, hf]
              exact ⟨⟨rfl, rfl⟩, h⟩
    | _ => exact False.elim h
  | _ => exact False.elim h
def gi_ald (t nx : Nat) : gx_T := fun S K _ _ => match S with
  | (_, lv, .int i :: .ref a :: st, h, bc, bs) => match h[a]? with
    | some (.inl (t', n, .inl f)) => match Nat.beq t' t with
      | true => vp_in i n ∧ K (nx, lv, .int (f i.toNatClampNeg) :: st, h, bc, bs)
      | false => False
    | _ => False
  | _ => False
def gi_ast (t : Nat) (g : Int32 → Int32) (nx : Nat) : gx_T := fun S K _ _ => match S with
  | (_, lv, .int x :: .int i :: .ref a :: st, h, bc, bs) => match h[a]? with
    | some (.inl (t', n, .inl f)) => match Nat.beq t' t with
      | true => vp_in i n ∧ K (nx, lv, st, h.set a (.inl (t', n, .inl (upd f i.toNatClampNeg (g x)))), bc, bs)
      | false => False
    | _ => False
  | _ => False
def gi_alen (nx : Nat) : gx_T := fun S K _ _ => match S with
  | (_, lv, .ref a :: st, h, bc, bs) => match h[a]? with
    | some (.inl (_, x)) => K (nx, lv, .int (Int32.ofNat x.1) :: st, h, bc, bs)
    | _ => False
  | _ => False
def gi_ret : gx_T := fun S _ Q _ => match S with
  | (_, _, [], h, _, _) => Q (.inl none, h)
  | _ => False
/-- a number of a small type too: of type ty -/
def gi_iret (ty : FieldType) : gx_T := fun S _ Q _ => match S with
  | (_, _, [.int x], h, _, _) => narrow ty (.int x) = .int x ∧ Q (.inl (some (.int x)), h)
  | _ => False
def gi_ireti : gx_T := fun S _ Q _ => match S with
  | (_, _, [.int x], h, _, _) => Q (.inl (some (.int x)), h)
  | _ => False
theorem gi_ireti.to {S : gx_S} {K : gx_S → Prop} {Q : gx_R → Prop} {C : Nat → gx_S → (gx_R → Prop) → Prop} (h : gi_ireti S K Q C) : gi_iret .int S K Q C := by
  obtain ⟨pc, lv, st, hp, bc, bs⟩ := S
  rcases st with _ | ⟨v, st⟩
  · exact False.elim h
  cases v with
  | int x =>
    rcases st with _ | ⟨v, st⟩
    · exact ⟨rfl, h⟩
    · exact False.elim h
  | _ => exact False.elim h
/-- a new array of ints of a small type or of int -/
def gi_newa (t : Nat) (nx : Nat) : gx_T := fun S K _ _ => match S with
  | (_, lv, .int n :: st, h, bc, bs) => (¬ n < 0 ∧ n.toNatClampNeg * 8 ≤ 536870912) ∧ (1 ≤ bc ∧ n.toNatClampNeg ≤ bs) ∧ K (nx, lv, .ref h.length :: st, h ++ [.inl (t, n.toNatClampNeg, .inl (fun _ => 0))], bc - 1, bs - n.toNatClampNeg)
  | _ => False
def gi_new (ci N : Nat) (fs : List Value) (nx : Nat) : gx_T := fun S K _ _ => match S with
  | (_, lv, st, h, bc, bs) => (1 ≤ bc ∧ N ≤ bs) ∧ K (nx, lv, .ref h.length :: st, h ++ [.inr (ci, fs)], bc - 1, bs - N)
/-- behind a call -/
def gx_k (lv : List (Option Value)) (st : List Value) (nx bc bs : Nat) (K : gx_S → Prop) (Q : gx_R → Prop) : gx_R → Prop := fun r => match r with
  | (.inl none, h) => K (nx, lv, st, h, bc, bs)
  | (.inl (some v), h) => K (nx, lv, v :: st, h, bc, bs)
  | (.inr x, h) => Q (.inr x, h)
/-- a call of method m' (n values are taken, with the receiver; nL locals); F: what is behind it -/
def gi_callK (m' n nL : Nat) (st : List Value) (h : gx_H) (bc bs : Nat) (F : Nat → Nat → gx_R → Prop) (C : Nat → gx_S → (gx_R → Prop) → Prop) : Prop :=
  match Nat.ble ((st.drop n).map Value.category).sum 8, ((st.take n).all (fun v => Nat.beq v.category 1)), Nat.beq (st.take n).length n with
    | true, true, true => ∃ kc ks, (kc ≤ bc ∧ ks ≤ bs) ∧ C m' (0, ((st.take n).reverse.map some) ++ List.replicate (nL - n) none, [], h, kc, ks) (F kc ks)
    | _, _, _ => False
def gi_call (m' n nL nx : Nat) : gx_T := fun S K Q C => match S with
  | (_, lv, st, h, bc, bs) => gi_callK m' n nL st h bc bs (fun kc ks => gx_k lv (st.drop n) nx (bc - kc) (bs - ks) K Q) C
/-- behind a constructor: it never throws -/
def gx_k0 (lv : List (Option Value)) (st : List Value) (nx bc bs : Nat) (K : gx_S → Prop) : gx_R → Prop := fun r => match r with
  | (.inl none, h) => K (nx, lv, st, h, bc, bs)
  | _ => False
/-- a call by the receiver's class: the receiver stands at place k of the stack, k values over it -/
def gi_vcall (sel : Nat → Option (Nat × Nat)) (k nx : Nat) : gx_T := fun S K Q C => match S with
  | (pc, lv, st, h, bc, bs) => match st[k]? with
    | some (.ref a) => match h[a]? with
      | some (.inr (c, _)) => match sel c with
        | some (m', nL) => gi_call m' (k + 1) nL nx (pc, lv, st, h, bc, bs) K Q C
        | none => False
      | _ => False
    | _ => False
/-- of one class alone -/
def gx_sel (ci m' nL : Nat) : Nat → Option (Nat × Nat) := fun c => match Nat.beq c ci with
  | true => some (m', nL)
  | false => none
/-- invokespecial of a constructor: on the cell at place k -/
def gi_scall (m' k nL nx : Nat) : gx_T := fun S K _ C => match S with
  | (_, lv, st, h, bc, bs) => match st[k]? with
    | some (.ref _) => gi_callK m' (k + 1) nL st h bc bs (fun kc ks => gx_k0 lv (st.drop (k + 1)) nx (bc - kc) (bs - ks) K) C
    | _ => False
/-- Object(): nothing -/
def gi_obj (nx : Nat) : gx_T := fun S K _ _ => match S with
  | (_, lv, .ref _ :: st, h, bc, bs) => match Nat.ble (st.map Value.category).sum 8 with
    | true => K (nx, lv, st, h, bc, bs)
    | false => False
  | _ => False
end
section
/-! What the abstract machine's states are in the machine: cell k lies at ad k, special k at sp k; array classes by their tag in dT. -/
def gx_v (sp ad : Nat → Nat) : Value → Value
  | .ref k => .ref (ad k)
  | .retAddr k => .ref (sp k)
  | .int x => .int x
  | .long x => .long x
  | .float x => .float x
  | .double x => .double x
  | .null => .null
theorem gx_v_cat (sp ad : Nat → Nat) (v : Value) : (gx_v sp ad v).category = v.category := by cases v <;> rfl
def gx_a (ad : Nat → Nat) : vp_A → vp_A
  | (n, .inl f) => (n, .inl f)
  | (n, .inr (.inl f)) => (n, .inr (.inl f))
  | (n, .inr (.inr (.inl f))) => (n, .inr (.inr (.inl f)))
  | (n, .inr (.inr (.inr (.inl f)))) => (n, .inr (.inr (.inr (.inl f))))
  | (n, .inr (.inr (.inr (.inr f)))) => (n, .inr (.inr (.inr (.inr (fun j => (f j).map ad)))))
def gx_c (dT : Nat → ClassId) (sp ad : Nat → Nat) : gx_E → va_E
  | .inl (t, x) => .inl (dT t, gx_a ad x)
  | .inr (ci, fs) => .inr (ci, fs.map (gx_v sp ad))
def gx_w (dT : Nat → ClassId) (sp ad : Nat → Nat) (h : gx_H) : va_W := h.mapIdx (fun k e => (ad k, gx_c dT sp ad e))
theorem gx_w_len (dT : Nat → ClassId) (sp ad : Nat → Nat) (h : gx_H) : (gx_w dT sp ad h).length = h.length := by simp [gx_w]
theorem gx_w_get (dT : Nat → ClassId) (sp ad : Nat → Nat) (h : gx_H) (k : Nat) : (gx_w dT sp ad h)[k]? = (h[k]?).map (fun e => (ad k, gx_c dT sp ad e)) := by
  unfold gx_w
  rw [List.getElem?_mapIdx]
theorem gx_w_at {dT : Nat → ClassId} {sp ad : Nat → Nat} {h : gx_H} {k : Nat} {e : gx_E} (hk : h[k]? = some e) : (gx_w dT sp ad h)[k]? = some (ad k, gx_c dT sp ad e) := by
  rw [gx_w_get, hk]; rfl
theorem gx_w_set (dT : Nat → ClassId) (sp ad : Nat → Nat) (h : gx_H) (k : Nat) (e : gx_E) : (gx_w dT sp ad h).set k (ad k, gx_c dT sp ad e) = gx_w dT sp ad (h.set k e) := by
  refine List.ext_getElem? fun i => ?_
  rw [gx_w_get, List.getElem?_set, List.getElem?_set, gx_w_get, gx_w_len]
  by_cases hik : k = i
  · subst hik
    by_cases hl : k < h.length
    · simp [hl]
    · simp [hl]
  · simp [hik]
-- no cell but those that are there is named
def gx_ok (n : Nat) : Value → Prop
  | .ref k => k < n
  | _ => True
def gx_oka (n : Nat) : vp_A → Prop
  | (_, .inr (.inr (.inr (.inr f)))) => ∀ j k, f j = some k → k < n
  | _ => True
def gx_okE (n : Nat) : gx_E → Prop
  | .inl (_, x) => gx_oka n x
  | .inr (_, fs) => ∀ v ∈ fs, gx_ok n v
def gx_okH (h : gx_H) : Prop := ∀ (k : Nat) (e : gx_E), h[k]? = some e → gx_okE h.length e
theorem gx_ok.le {n n' : Nat} {v : Value} (h : gx_ok n v) (hn : n ≤ n') : gx_ok n' v := by
  cases v with
  | ref k => exact Nat.lt_of_lt_of_le h hn
  | _ => trivial
theorem gx_oka.le {n n' : Nat} {x : vp_A} (h : gx_oka n x) (hn : n ≤ n') : gx_oka n' x := by
  obtain ⟨k, a | a | a | a | a⟩ := x
  · trivial
  · trivial
  · trivial
  · trivial
  · exact fun j k hj => Nat.lt_of_lt_of_le (h j k hj) hn
theorem gx_okE.le {n n' : Nat} {x : gx_E} (h : gx_okE n x) (hn : n ≤ n') : gx_okE n' x := by
  obtain ⟨t, a⟩ | ⟨ci, fs⟩ := x
  · exact gx_oka.le (x := a) h hn
  · exact fun v hv => gx_ok.le (h v hv) hn
theorem gx_v.ext {sp ad ad' : Nat → Nat} {n : Nat} {v : Value} (h : gx_ok n v) (ha : ∀ k, k < n → ad' k = ad k) : gx_v sp ad' v = gx_v sp ad v := by
  cases v with
  | ref k => exact congrArg Value.ref (ha k h)
  | _ => rfl
theorem gx_a.ext {ad ad' : Nat → Nat} {n : Nat} {x : vp_A} (h : gx_oka n x) (ha : ∀ k, k < n → ad' k = ad k) : gx_a ad' x = gx_a ad x := by
  obtain ⟨k, a | a | a | a | a⟩ := x
  · rfl
  · rfl
  · rfl
  · rfl
  · show (k, Sum.inr (Sum.inr (Sum.inr (Sum.inr (fun j => (a j).map ad'))))) = (k, Sum.inr (Sum.inr (Sum.inr (Sum.inr (fun j => (a j).map ad)))))
    have e : (fun j => (a j).map ad') = (fun j => (a j).map ad) := by
      funext j
      cases hj : a j with
      | none => rfl
      | some i => exact congrArg some (ha i (h j i hj))
    rw [e]
theorem gx_c.ext {dT : Nat → ClassId} {sp ad ad' : Nat → Nat} {n : Nat} {x : gx_E} (h : gx_okE n x) (ha : ∀ k, k < n → ad' k = ad k) : gx_c dT sp ad' x = gx_c dT sp ad x := by
  obtain ⟨t, a⟩ | ⟨ci, fs⟩ := x
  · show Sum.inl (dT t, gx_a ad' a) = Sum.inl (dT t, gx_a ad a)
    rw [gx_a.ext (x := a) h ha]
  · show Sum.inr (ci, fs.map (gx_v sp ad')) = Sum.inr (ci, fs.map (gx_v sp ad))
    rw [List.map_congr_left (fun v hv => gx_v.ext (h v hv) ha)]
theorem gx_w.ext {dT : Nat → ClassId} {sp ad ad' : Nat → Nat} {h : gx_H} (hok : gx_okH h) (ha : ∀ k, k < h.length → ad' k = ad k) : gx_w dT sp ad' h = gx_w dT sp ad h := by
  refine List.ext_getElem? fun i => ?_
  rw [gx_w_get, gx_w_get]
  cases hi : h[i]? with
  | none => rfl
  | some e =>
    have hl : i < h.length := (List.getElem?_eq_some_iff.mp hi).1
    show some (ad' i, gx_c dT sp ad' e) = some (ad i, gx_c dT sp ad e)
    rw [ha i hl, gx_c.ext (hok i e hi) ha]
theorem gx_w.push {dT : Nat → ClassId} {sp ad ad' : Nat → Nat} {h : gx_H} (e : gx_E) (hok : gx_okH h) (ha : ∀ k, k < h.length → ad' k = ad k) : gx_w dT sp ad' (h ++ [e]) = gx_w dT sp ad h ++ [(ad' h.length, gx_c dT sp ad' e)] := by
  rw [← gx_w.ext (dT := dT) (sp := sp) hok ha]
  unfold gx_w
  rw [List.mapIdx_append]
  simp
theorem gx_okH.set {h : gx_H} {k : Nat} {e : gx_E} (hok : gx_okH h) (he : gx_okE h.length e) : gx_okH (h.set k e) := by
  intro i x hi
  rw [List.length_set]
  rw [List.getElem?_set] at hi
  by_cases hik : k = i
  · rw [if_pos hik] at hi
    by_cases hl : k < h.length
    · rw [if_pos hl] at hi
      cases hi
      exact he
    · rw [if_neg hl] at hi
      cases hi
  · rw [if_neg hik] at hi
    exact hok i x hi
theorem gx_okH.push {h : gx_H} {e : gx_E} (hok : gx_okH h) (he : gx_okE (h.length + 1) e) : gx_okH (h ++ [e]) := by
  intro i x hi
  rw [List.length_append]
  by_cases hl : i < h.length
  · rw [List.getElem?_append_left hl] at hi
    exact (hok i x hi).le (by simp)
  · rw [List.getElem?_append_right (by omega)] at hi
    have hz : i - h.length < 1 := (List.getElem?_eq_some_iff.mp hi).1
    have h0 : i - h.length = 0 := by omega
    rw [h0] at hi
    cases hi
    exact he
-- the kit's context; what is the same all through a method: (dC, dI), the array classes' numbers by tag, the special cells, what may change, how many cells there were, where they lay
abbrev gx_C : Type := Program × Launch × Env × Room × State × MethodId × Array Value × List Frame × Method × Code
abbrev gx_D : Type := va_G × (Nat → ClassId) × (Nat → Nat) × (Nat → Prop) × Nat × (Nat → Nat)
-- of a method: the classes, the arrays' element types by tag, what holds of old cells, its words, its code, its name, its locals, what it returns
abbrev gx_M : Type := List vw_C × List FieldType × ((Nat → Nat) → (Nat → Prop) → State → Heap → Prop) × List Cond × ByteArray × MethodName × Nat × Option FieldType
def gx_ty (dT : Nat → ClassId) (tyl : List FieldType) : List (ClassId × FieldType) := tyl.mapIdx (fun k ty => (dT k, ty))
theorem gx_ty_at {dT : Nat → ClassId} {tyl : List FieldType} {t : Nat} {ty : FieldType} (h : tyl[t]? = some ty) : (gx_ty dT tyl)[t]? = some (dT t, ty) := by
  unfold gx_ty
  rw [List.getElem?_mapIdx, h]
  rfl
/-- a step of the machine that turns on the code alone -/
def gx_go (cc : ByteArray) (g g' : MethodId → JFrame) : Prop := ∀ (p : Program) (l : Launch) (e : Env) (R : Room) (s : State) (m : MethodId) (args : Array Value) (below : List Frame) (meth : Method) (c : Code) (H : Heap) (locs : List Loc) (cells slots : Nat) (Fin : State → Prop), p.tables.exec = Jvm.exec → c.code = cc → W p l e R s m args below meth c H locs cells slots Fin (g' m) → W p l e R s m args below meth c H locs cells slots Fin (g m)
/-- heap -/
def gx_Rh (cl : List vw_C) (y : gx_D) (s : State) (h : gx_H) (ad : Nat → Nat) (H : Heap) (locs : List Loc) : Prop := match y with
  | (D, dT, sp, A, n0, ad0) => va_P D cl (gx_w dT sp ad h) H ∧ va_D A (gx_w dT sp ad h) ∧ va_S A s.heap H locs ∧ gx_okH h ∧ n0 ≤ h.length ∧ ∀ k, k < n0 → ad k = ad0 k
/-- locals -/
def gx_Rv (sp : Nat → Nat) (nL : Nat) (lv : List (Option Value)) (n : Nat) (ad : Nat → Nat) (ls : Array Slot) : Prop :=
  ls.size = nL ∧ lv_wf ls ∧ lv.length ≤ nL ∧ ∀ (i : Nat) (v : Value), lv[i]? = some (some v) → ls[i]? = some (.val (gx_v sp ad v)) ∧ gx_ok n v ∧ v.category = 1
def gx_Rs (st : List Value) (n : Nat) : Prop := ∀ v ∈ st, gx_ok n v
def gx_Cx (z : gx_M) (x : gx_C) (y : gx_D) : Prop := match z, x, y with
  | (cl, tyl, G, Ts, cc, my, nL, ret), (p, _, _, _, s, m, args, _, meth, c), (D, dT, sp, A, _, _) => (p.tables.exec = Jvm.exec ∧ c.code = cc ∧ c.maxLocals = nL ∧ s.vm.findClass my.cls = some m.cls ∧ meth.name = my.name ∧ meth.sig.returnType = ret) ∧ (∀ w ∈ Ts, w.before args s = true) ∧ va_K D cl (gx_ty dT tyl) s ∧ (∀ q, s.heap.size ≤ q → A q) ∧ meth.locks = false ∧ G sp A s s.heap
/-- from the state S the machine comes to Fin -/
def gx_Gd (z : gx_M) (x : gx_C) (y : gx_D) (Fin : State → Prop) (S : gx_S) : Prop := match z, x, y, S with
  | (cl, _, _, _, _, _, nL, _), (p, l, e, R, s, m, args, below, meth, c), (D, dT, sp, A, n0, ad0), (pc, lv, st, h, bc, bs) => ∀ (ad : Nat → Nat) (H : Heap) (locs : List Loc) (ls : Array Slot),
    gx_Rh cl (D, dT, sp, A, n0, ad0) s h ad H locs → gx_Rv sp nL lv h.length ad ls → gx_Rs st h.length → bc ≤ R.cells → bs ≤ R.slots → W p l e R s m args below meth c H locs (R.cells - bc) (R.slots - bs) Fin (F0 m pc ls (st.map (gx_v sp ad)))
/-- an instruction that neither calls nor ends is right at pc -/
def gx_s1 (z : gx_M) (pc : Nat) (T : gx_T) : Prop := ∀ (x : gx_C) (y : gx_D) (Fin : State → Prop) (lv : List (Option Value)) (st : List Value) (h : gx_H) (bc bs : Nat) (K : gx_S → Prop) (Q : gx_R → Prop) (C : Nat → gx_S → (gx_R → Prop) → Prop),
  gx_Cx z x y → T (pc, lv, st, h, bc, bs) K Q C → (∀ S', K S' → gx_Gd z x y Fin S') → gx_Gd z x y Fin (pc, lv, st, h, bc, bs)
end
section
/-! The instructions are right: each by the kit's row. Written by wip/tools/rows.py. -/
section GXS
variable {cl : List vw_C} {tyl : List FieldType} {Ts : List Cond} {G : (Nat → Nat) → (Nat → Prop) → State → Heap → Prop} {cc : ByteArray} {my : MethodName} {nL : Nat} {ret : Option FieldType} {pc nx : Nat}
theorem gs_ild {i : Nat} (hrow : ∀ (ls : Array Slot) (rest : List Value) (x : Int32), ls[i]? = some (.val (.int x)) → gx_go cc (fun m => F0 m pc ls rest) (fun m => F0 m nx ls (.int x :: rest))) : gx_s1 (cl, tyl, G, Ts, cc, my, nL, ret) pc (gi_ld gx_isI i nx) := by
  rintro ⟨p, l, e, R, s, m, args, below, meth, c⟩ ⟨D, dT, sp, A, n0, ad0⟩ Fin lv st h bc bs K Q C ⟨⟨hx, hb, hml, hown, hnm0, hret⟩, hts, hK0, hA, hlk, hG⟩ hT hK ad H locs ls hh hv hs hc1 hc2
  cases hi : lv[i]? with
  | none => simp only [gi_ld, hi] at hT
  | some o =>
    cases o with
    | none => simp only [gi_ld, hi] at hT
    | some v =>
      cases v with
      | int x =>
        simp only [gi_ld, hi, gx_isI] at hT
        have h1 := hv.2.2.2 i _ hi
        exact hrow ls _ x h1.1 p l e R s m args below meth c H locs _ _ Fin hx hb (hK _ hT ad H locs ls hh hv (fun w hm => by
          rcases List.mem_cons.mp hm with e1 | e1
          · rw [e1]; trivial
          · exact hs w e1) hc1 hc2)
      | _ =>
        simp only [gi_ld, hi, gx_isI] at hT
theorem gs_rld {i : Nat} (hrow : ∀ (ls : Array Slot) (rest : List Value) (x : Option Nat), ls[i]? = some (.val (va_rf x)) → gx_go cc (fun m => F0 m pc ls rest) (fun m => F0 m nx ls (va_rf x :: rest))) : gx_s1 (cl, tyl, G, Ts, cc, my, nL, ret) pc (gi_ld gx_isR i nx) := by
  rintro ⟨p, l, e, R, s, m, args, below, meth, c⟩ ⟨D, dT, sp, A, n0, ad0⟩ Fin lv st h bc bs K Q C ⟨⟨hx, hb, hml, hown, hnm0, hret⟩, hts, hK0, hA, hlk, hG⟩ hT hK ad H locs ls hh hv hs hc1 hc2
  cases hi : lv[i]? with
  | none => simp only [gi_ld, hi] at hT
  | some o =>
    cases o with
    | none => simp only [gi_ld, hi] at hT
    | some v =>
      have h1 := hv.2.2.2 i _ hi
      have hst : gx_Rs (v :: st) h.length := (fun w hm => by
          rcases List.mem_cons.mp hm with e1 | e1
          · rw [e1]; exact h1.2.1
          · exact hs w e1)
      cases v with
      | ref k =>
        simp only [gi_ld, hi, gx_isR] at hT
        exact hrow ls _ (some (ad k)) h1.1 p l e R s m args below meth c H locs _ _ Fin hx hb (hK _ hT ad H locs ls hh hv hst hc1 hc2)
      | retAddr k =>
        simp only [gi_ld, hi, gx_isR] at hT
        exact hrow ls _ (some (sp k)) h1.1 p l e R s m args below meth c H locs _ _ Fin hx hb (hK _ hT ad H locs ls hh hv hst hc1 hc2)
      | null =>
        simp only [gi_ld, hi, gx_isR] at hT
        exact hrow ls _ none h1.1 p l e R s m args below meth c H locs _ _ Fin hx hb (hK _ hT ad H locs ls hh hv hst hc1 hc2)
      | _ =>
        simp only [gi_ld, hi, gx_isR] at hT
theorem gs_k {v : Value} (hok : gx_ok 0 v) (hv0 : ∀ sp ad, gx_v sp ad v = v) (hrow : ∀ (ls : Array Slot) (rest : List Value), gx_go cc (fun m => F0 m pc ls rest) (fun m => F0 m nx ls (v :: rest))) : gx_s1 (cl, tyl, G, Ts, cc, my, nL, ret) pc (gi_k v nx) := by
  rintro ⟨p, l, e, R, s, m, args, below, meth, c⟩ ⟨D, dT, sp, A, n0, ad0⟩ Fin lv st h bc bs K Q C ⟨⟨hx, hb, hml, hown, hnm0, hret⟩, hts, hK0, hA, hlk, hG⟩ hT hK ad H locs ls hh hv hs hc1 hc2
  have h1 := hK _ hT ad H locs ls hh hv (fun w hm => by
          rcases List.mem_cons.mp hm with e1 | e1
          · rw [e1]; exact hok.le (Nat.zero_le _)
          · exact hs w e1) hc1 hc2
  rw [List.map_cons, hv0] at h1
  exact hrow ls _ p l e R s m args below meth c H locs _ _ Fin hx hb h1
theorem gs_bin {f : Int32 → Int32 → Int32} (hrow : ∀ (ls : Array Slot) (rest : List Value) (a b : Int32), gx_go cc (fun m => F0 m pc ls (.int b :: .int a :: rest)) (fun m => F0 m nx ls (.int (f a b) :: rest))) : gx_s1 (cl, tyl, G, Ts, cc, my, nL, ret) pc (gi_bin f nx) := by
  rintro ⟨p, l, e, R, s, m, args, below, meth, c⟩ ⟨D, dT, sp, A, n0, ad0⟩ Fin lv st h bc bs K Q C ⟨⟨hx, hb, hml, hown, hnm0, hret⟩, hts, hK0, hA, hlk, hG⟩ hT hK ad H locs ls hh hv hs hc1 hc2
  rcases st with _ | ⟨v, st⟩
  · exact False.elim hT
  cases v with
  | int b =>
    rcases st with _ | ⟨v, st⟩
    · exact False.elim hT
    cases v with
    | int a =>
      exact hrow ls _ a b p l e R s m args below meth c H locs _ _ Fin hx hb (hK _ hT ad H locs ls hh hv (fun w hm => by
                rcases List.mem_cons.mp hm with e1 | e1
                · rw [e1]; trivial
                · exact hs w (List.mem_cons_of_mem _ (List.mem_cons_of_mem _ e1))) hc1 hc2)
    | _ => exact False.elim hT
  | _ => exact False.elim hT
theorem gs_div {f : Int32 → Int32 → Int32} (hrow : ∀ (ls : Array Slot) (rest : List Value) (a b : Int32), ¬ b = 0 → gx_go cc (fun m => F0 m pc ls (.int b :: .int a :: rest)) (fun m => F0 m nx ls (.int (f a b) :: rest))) : gx_s1 (cl, tyl, G, Ts, cc, my, nL, ret) pc (gi_div f nx) := by
  rintro ⟨p, l, e, R, s, m, args, below, meth, c⟩ ⟨D, dT, sp, A, n0, ad0⟩ Fin lv st h bc bs K Q C ⟨⟨hx, hb, hml, hown, hnm0, hret⟩, hts, hK0, hA, hlk, hG⟩ hT hK ad H locs ls hh hv hs hc1 hc2
  rcases st with _ | ⟨v, st⟩
  · exact False.elim hT
  cases v with
  | int b =>
    rcases st with _ | ⟨v, st⟩
    · exact False.elim hT
    cases v with
    | int a =>
      obtain ⟨hz, hT⟩ := hT
      exact hrow ls _ a b hz p l e R s m args below meth c H locs _ _ Fin hx hb (hK _ hT ad H locs ls hh hv (fun w hm => by
                rcases List.mem_cons.mp hm with e1 | e1
                · rw [e1]; trivial
                · exact hs w (List.mem_cons_of_mem _ (List.mem_cons_of_mem _ e1))) hc1 hc2)
    | _ => exact False.elim hT
  | _ => exact False.elim hT
theorem gs_un {f : Int32 → Int32} (hrow : ∀ (ls : Array Slot) (rest : List Value) (a : Int32), gx_go cc (fun m => F0 m pc ls (.int a :: rest)) (fun m => F0 m nx ls (.int (f a) :: rest))) : gx_s1 (cl, tyl, G, Ts, cc, my, nL, ret) pc (gi_un f nx) := by
  rintro ⟨p, l, e, R, s, m, args, below, meth, c⟩ ⟨D, dT, sp, A, n0, ad0⟩ Fin lv st h bc bs K Q C ⟨⟨hx, hb, hml, hown, hnm0, hret⟩, hts, hK0, hA, hlk, hG⟩ hT hK ad H locs ls hh hv hs hc1 hc2
  rcases st with _ | ⟨v, st⟩
  · exact False.elim hT
  cases v with
  | int a =>
    exact hrow ls _ a p l e R s m args below meth c H locs _ _ Fin hx hb (hK _ hT ad H locs ls hh hv (fun w hm => by
              rcases List.mem_cons.mp hm with e1 | e1
              · rw [e1]; trivial
              · exact hs w (List.mem_cons_of_mem _ e1)) hc1 hc2)
  | _ => exact False.elim hT
theorem gs_goto {tg : Nat} (hrow : ∀ (ls : Array Slot) (rest : List Value), gx_go cc (fun m => F0 m pc ls rest) (fun m => F0 m tg ls rest)) : gx_s1 (cl, tyl, G, Ts, cc, my, nL, ret) pc (gi_goto tg) := by
  rintro ⟨p, l, e, R, s, m, args, below, meth, c⟩ ⟨D, dT, sp, A, n0, ad0⟩ Fin lv st h bc bs K Q C ⟨⟨hx, hb, hml, hown, hnm0, hret⟩, hts, hK0, hA, hlk, hG⟩ hT hK ad H locs ls hh hv hs hc1 hc2
  exact hrow ls _ p l e R s m args below meth c H locs _ _ Fin hx hb (hK _ hT ad H locs ls hh hv hs hc1 hc2)
/-- a branch on one number, on two -/
def gx_br1 (cc : ByteArray) (ct cf : Int32 → Prop) (pc tg nx : Nat) : Prop := ∀ (p : Program) (l : Launch) (e : Env) (R : Room) (s : State) (m : MethodId) (args : Array Value) (below : List Frame) (meth : Method) (c : Code) (H : Heap) (locs : List Loc) (cells slots : Nat) (Fin : State → Prop) (ls : Array Slot) (rest : List Value) (a : Int32), p.tables.exec = Jvm.exec → c.code = cc → (ct a → W p l e R s m args below meth c H locs cells slots Fin (F0 m tg ls rest)) → (cf a → W p l e R s m args below meth c H locs cells slots Fin (F0 m nx ls rest)) → W p l e R s m args below meth c H locs cells slots Fin (F0 m pc ls (.int a :: rest))
def gx_br2 (cc : ByteArray) (ct cf : Int32 → Int32 → Prop) (pc tg nx : Nat) : Prop := ∀ (p : Program) (l : Launch) (e : Env) (R : Room) (s : State) (m : MethodId) (args : Array Value) (below : List Frame) (meth : Method) (c : Code) (H : Heap) (locs : List Loc) (cells slots : Nat) (Fin : State → Prop) (ls : Array Slot) (rest : List Value) (a b : Int32), p.tables.exec = Jvm.exec → c.code = cc → (ct a b → W p l e R s m args below meth c H locs cells slots Fin (F0 m tg ls rest)) → (cf a b → W p l e R s m args below meth c H locs cells slots Fin (F0 m nx ls rest)) → W p l e R s m args below meth c H locs cells slots Fin (F0 m pc ls (.int b :: .int a :: rest))
theorem gs_if {ct cf : Int32 → Prop} {tg : Nat} (hrow : gx_br1 cc ct cf pc tg nx) : gx_s1 (cl, tyl, G, Ts, cc, my, nL, ret) pc (gi_if ct cf tg nx) := by
  rintro ⟨p, l, e, R, s, m, args, below, meth, c⟩ ⟨D, dT, sp, A, n0, ad0⟩ Fin lv st h bc bs K Q C ⟨⟨hx, hb, hml, hown, hnm0, hret⟩, hts, hK0, hA, hlk, hG⟩ hT hK ad H locs ls hh hv hs hc1 hc2
  rcases st with _ | ⟨v, st⟩
  · exact False.elim hT
  cases v with
  | int a =>
    have hs' : gx_Rs st h.length := (fun w e1 => hs w (List.mem_cons_of_mem _ e1))
    exact hrow p l e R s m args below meth c H locs _ _ Fin ls _ a hx hb (fun q => hK _ (hT.1 q) ad H locs ls hh hv hs' hc1 hc2) (fun q => hK _ (hT.2 q) ad H locs ls hh hv hs' hc1 hc2)
  | _ => exact False.elim hT
theorem gs_cmp {ct cf : Int32 → Int32 → Prop} {tg : Nat} (hrow : gx_br2 cc ct cf pc tg nx) : gx_s1 (cl, tyl, G, Ts, cc, my, nL, ret) pc (gi_cmp ct cf tg nx) := by
  rintro ⟨p, l, e, R, s, m, args, below, meth, c⟩ ⟨D, dT, sp, A, n0, ad0⟩ Fin lv st h bc bs K Q C ⟨⟨hx, hb, hml, hown, hnm0, hret⟩, hts, hK0, hA, hlk, hG⟩ hT hK ad H locs ls hh hv hs hc1 hc2
  rcases st with _ | ⟨v, st⟩
  · exact False.elim hT
  cases v with
  | int b =>
    rcases st with _ | ⟨v, st⟩
    · exact False.elim hT
    cases v with
    | int a =>
      have hs' : gx_Rs st h.length := (fun w e1 => hs w (List.mem_cons_of_mem _ (List.mem_cons_of_mem _ e1)))
      exact hrow p l e R s m args below meth c H locs _ _ Fin ls _ a b hx hb (fun q => hK _ (hT.1 q) ad H locs ls hh hv hs' hc1 hc2) (fun q => hK _ (hT.2 q) ad H locs ls hh hv hs' hc1 hc2)
    | _ => exact False.elim hT
  | _ => exact False.elim hT
theorem gs_dup (hd : decode cc pc = .ok (.dup, 1)) : gx_s1 (cl, tyl, G, Ts, cc, my, nL, ret) pc (gi_dup (pc + 1)) := by
  rintro ⟨p, l, e, R, s, m, args, below, meth, c⟩ ⟨D, dT, sp, A, n0, ad0⟩ Fin lv st h bc bs K Q C ⟨⟨hx, hb, hml, hown, hnm0, hret⟩, hts, hK0, hA, hlk, hG⟩ hT hK ad H locs ls hh hv hs hc1 hc2
  rcases st with _ | ⟨v, st⟩
  · exact False.elim hT
  cases hc : Nat.beq v.category 1 with
  | false => simp only [gi_dup, hc] at hT
  | true =>
    simp only [gi_dup, hc] at hT
    exact lv_dup hx hb hd (by rw [gx_v_cat]; exact Nat.eq_of_beq_eq_true hc) (hK _ hT ad H locs ls hh hv (fun w hm => by
          rcases List.mem_cons.mp hm with e1 | e1
          · rw [e1]; exact hs v List.mem_cons_self
          · exact hs w e1) hc1 hc2)
theorem gs_pop (hd : decode cc pc = .ok (.pop, 1)) : gx_s1 (cl, tyl, G, Ts, cc, my, nL, ret) pc (gi_pop (pc + 1)) := by
  rintro ⟨p, l, e, R, s, m, args, below, meth, c⟩ ⟨D, dT, sp, A, n0, ad0⟩ Fin lv st h bc bs K Q C ⟨⟨hx, hb, hml, hown, hnm0, hret⟩, hts, hK0, hA, hlk, hG⟩ hT hK ad H locs ls hh hv hs hc1 hc2
  rcases st with _ | ⟨v, st⟩
  · exact False.elim hT
  cases hc : Nat.beq v.category 1 with
  | false => simp only [gi_pop, hc] at hT
  | true =>
    simp only [gi_pop, hc] at hT
    exact lv_pop hx hb hd (by rw [gx_v_cat]; exact Nat.eq_of_beq_eq_true hc) (hK _ hT ad H locs ls hh hv (fun w e1 => hs w (List.mem_cons_of_mem _ e1)) hc1 hc2)
theorem gs_dup2 (hd : decode cc pc = .ok (.dup2, 1)) : gx_s1 (cl, tyl, G, Ts, cc, my, nL, ret) pc (gi_dup2 (pc + 1)) := by
  rintro ⟨p, l, e, R, s, m, args, below, meth, c⟩ ⟨D, dT, sp, A, n0, ad0⟩ Fin lv st h bc bs K Q C ⟨⟨hx, hb, hml, hown, hnm0, hret⟩, hts, hK0, hA, hlk, hG⟩ hT hK ad H locs ls hh hv hs hc1 hc2
  rcases st with _ | ⟨v, _ | ⟨w, st⟩⟩
  · exact False.elim hT
  · exact False.elim hT
  cases hc : Nat.beq v.category 1 with
  | false => simp only [gi_dup2, hc] at hT
  | true =>
    cases hw : Nat.beq w.category 1 with
    | false => simp only [gi_dup2, hc, hw] at hT
    | true =>
      simp only [gi_dup2, hc, hw] at hT
      exact lv_dup2_11 hx hb hd (by rw [gx_v_cat]; exact Nat.eq_of_beq_eq_true hc) (by rw [gx_v_cat]; exact Nat.eq_of_beq_eq_true hw) (hK _ hT ad H locs ls hh hv (fun u hm => by
        rcases List.mem_cons.mp hm with e1 | e1
        · rw [e1]; exact hs v List.mem_cons_self
        · rcases List.mem_cons.mp e1 with e2 | e2
          · rw [e2]; exact hs w (List.mem_cons_of_mem _ List.mem_cons_self)
          · exact hs u e2) hc1 hc2)
/-- the locals as a list for the kit -/
def gx_ll (sp ad : Nat → Nat) (lv : List (Option Value)) : List (Nat × Value) := (List.range lv.length).filterMap (fun i => match lv[i]? with
  | some (some v) => some (i, gx_v sp ad v)
  | _ => none)
theorem gx_ll_mem {sp ad : Nat → Nat} {lv : List (Option Value)} {i : Nat} {v : Value} (h : lv[i]? = some (some v)) : (i, gx_v sp ad v) ∈ gx_ll sp ad lv := by
  refine List.mem_filterMap.mpr ⟨i, List.mem_range.mpr (List.getElem?_eq_some_iff.mp h).1, ?_⟩
  rw [h]
theorem gx_ll_has {sp ad : Nat → Nat} {lv : List (Option Value)} {n : Nat} {ls : Array Slot} (h : gx_Rv sp nL lv n ad ls) : lv_has ls nL (gx_ll sp ad lv) := by
  refine ⟨h.1, h.2.1, fun q hq => ?_⟩
  obtain ⟨i, -, hi⟩ := List.mem_filterMap.mp hq
  cases hl : lv[i]? with
  | none => rw [hl] at hi; cases hi
  | some o =>
    cases o with
    | none => rw [hl] at hi; cases hi
    | some v =>
      rw [hl] at hi
      cases hi
      exact (h.2.2.2 i v hl).1
theorem gx_Rv.set {sp ad : Nat → Nat} {lv : List (Option Value)} {n i : Nat} {v : Value} {ls ls' : Array Slot} (h : gx_Rv sp nL lv n ad ls) (hok : gx_ok n v) (hcv : v.category = 1)
    (h' : lv_has ls' nL ((i, gx_v sp ad v) :: (gx_ll sp ad lv).filter (fun q => !(q.1 == i) && !(q.1 + 1 == i && q.2.category == 2)))) : gx_Rv sp nL (lv.set i (some v)) n ad ls' := by
  refine ⟨h'.1, h'.2.1, by rw [List.length_set]; exact h.2.2.1, fun j u hj => ?_⟩
  rw [List.getElem?_set] at hj
  by_cases hij : i = j
  · rw [if_pos hij] at hj
    by_cases hl : i < lv.length
    · rw [if_pos hl] at hj
      cases hj
      exact ⟨by rw [← hij]; exact h'.2.2 (i, gx_v sp ad v) List.mem_cons_self, hok, hcv⟩
    · rw [if_neg hl] at hj
      cases hj
  · rw [if_neg hij] at hj
    refine ⟨h'.2.2 (j, gx_v sp ad u) (List.mem_cons_of_mem _ (List.mem_filter.mpr ⟨gx_ll_mem hj, ?_⟩)), (h.2.2.2 j u hj).2⟩
    have h1 : (j == i) = false := by rw [beq_eq_false_iff_ne]; exact fun z => hij z.symm
    have h2 : ((gx_v sp ad u).category == 2) = false := by rw [gx_v_cat, (h.2.2.2 j u hj).2.2]; rfl
    show (!(j == i) && !(j + 1 == i && (gx_v sp ad u).category == 2)) = true
    rw [h1, h2]
    simp
/-- a store into local i -/
def gx_stR (cc : ByteArray) (nL i pc nx : Nat) (v : Value) : Prop := ∀ (p : Program) (l : Launch) (e : Env) (R : Room) (s : State) (m : MethodId) (args : Array Value) (below : List Frame) (meth : Method) (c : Code) (H : Heap) (locs : List Loc) (cells slots : Nat) (Fin : State → Prop) (ls : Array Slot) (rest : List Value) (l1 : List (Nat × Value)), p.tables.exec = Jvm.exec → c.code = cc → lv_has ls nL l1 → i < nL → (∀ ls' : Array Slot, lv_has ls' nL ((i, v) :: l1.filter (fun q => !(q.1 == i) && !(q.1 + 1 == i && q.2.category == 2))) → W p l e R s m args below meth c H locs cells slots Fin (F0 m nx ls' rest)) → W p l e R s m args below meth c H locs cells slots Fin (F0 m pc ls (v :: rest))
theorem gs_ist {i : Nat} (hrow : ∀ x : Int32, gx_stR cc nL i pc nx (.int x)) : gx_s1 (cl, tyl, G, Ts, cc, my, nL, ret) pc (gi_st gx_isI i nx) := by
  rintro ⟨p, l, e, R, s, m, args, below, meth, c⟩ ⟨D, dT, sp, A, n0, ad0⟩ Fin lv st h bc bs K Q C ⟨⟨hx, hb, hml, hown, hnm0, hret⟩, hts, hK0, hA, hlk, hG⟩ hT hK ad H locs ls hh hv hs hc1 hc2
  rcases st with _ | ⟨v, st⟩
  · exact False.elim hT
  cases hi : lv[i]? with
  | none => simp only [gi_st, hi] at hT
  | some o =>
    have hlt : i < nL := Nat.lt_of_lt_of_le (List.getElem?_eq_some_iff.mp hi).1 hv.2.2.1
    have hs' : gx_Rs st h.length := (fun w e1 => hs w (List.mem_cons_of_mem _ e1))
    have hv1 : gx_ok h.length v := hs v List.mem_cons_self
    cases v with
    | int x =>
      simp only [gi_st, hi, gx_isI] at hT
      exact hrow x p l e R s m args below meth c H locs _ _ Fin ls _ _ hx hb (gx_ll_has hv) hlt (fun ls' hl' => hK _ hT ad H locs ls' hh (hv.set hv1 rfl hl') hs' hc1 hc2)
    | _ =>
      simp only [gi_st, hi, gx_isI] at hT
theorem gs_rst {i : Nat} (hrow : ∀ x : Option Nat, gx_stR cc nL i pc nx (va_rf x)) : gx_s1 (cl, tyl, G, Ts, cc, my, nL, ret) pc (gi_st gx_isR i nx) := by
  rintro ⟨p, l, e, R, s, m, args, below, meth, c⟩ ⟨D, dT, sp, A, n0, ad0⟩ Fin lv st h bc bs K Q C ⟨⟨hx, hb, hml, hown, hnm0, hret⟩, hts, hK0, hA, hlk, hG⟩ hT hK ad H locs ls hh hv hs hc1 hc2
  rcases st with _ | ⟨v, st⟩
  · exact False.elim hT
  cases hi : lv[i]? with
  | none => simp only [gi_st, hi] at hT
  | some o =>
    have hlt : i < nL := Nat.lt_of_lt_of_le (List.getElem?_eq_some_iff.mp hi).1 hv.2.2.1
    have hs' : gx_Rs st h.length := (fun w e1 => hs w (List.mem_cons_of_mem _ e1))
    have hv1 : gx_ok h.length v := hs v List.mem_cons_self
    cases v with
    | ref k =>
      simp only [gi_st, hi, gx_isR] at hT
      exact hrow (some (ad k)) p l e R s m args below meth c H locs _ _ Fin ls _ _ hx hb (gx_ll_has hv) hlt (fun ls' hl' => hK _ hT ad H locs ls' hh (hv.set hv1 rfl hl') hs' hc1 hc2)
    | retAddr k =>
      simp only [gi_st, hi, gx_isR] at hT
      exact hrow (some (sp k)) p l e R s m args below meth c H locs _ _ Fin ls _ _ hx hb (gx_ll_has hv) hlt (fun ls' hl' => hK _ hT ad H locs ls' hh (hv.set hv1 rfl hl') hs' hc1 hc2)
    | null =>
      simp only [gi_st, hi, gx_isR] at hT
      exact hrow none p l e R s m args below meth c H locs _ _ Fin ls _ _ hx hb (gx_ll_has hv) hlt (fun ls' hl' => hK _ hT ad H locs ls' hh (hv.set hv1 rfl hl') hs' hc1 hc2)
    | _ =>
      simp only [gi_st, hi, gx_isR] at hT
theorem gs_inc {i : Nat} {n : Int} (hd : decode cc pc = .ok (.iinc i n, 3)) : gx_s1 (cl, tyl, G, Ts, cc, my, nL, ret) pc (gi_inc i (Int32.ofInt n) (pc + 3)) := by
  rintro ⟨p, l, e, R, s, m, args, below, meth, c⟩ ⟨D, dT, sp, A, n0, ad0⟩ Fin lv st h bc bs K Q C ⟨⟨hx, hb, hml, hown, hnm0, hret⟩, hts, hK0, hA, hlk, hG⟩ hT hK ad H locs ls hh hv hs hc1 hc2
  cases hi : lv[i]? with
  | none => simp only [gi_inc, hi] at hT
  | some o =>
    have hlt : i < nL := Nat.lt_of_lt_of_le (List.getElem?_eq_some_iff.mp hi).1 hv.2.2.1
    cases o with
    | none => simp only [gi_inc, hi] at hT
    | some v =>
      cases v with
      | int x =>
        simp only [gi_inc, hi] at hT
        obtain ⟨k, hk⟩ := List.getElem?_of_mem (gx_ll_mem (sp := sp) (ad := ad) hi)
        exact lv_iinc hx hb hd (gx_ll_has hv) hk rfl hlt rfl (fun ls' hl' => hK _ hT ad H locs ls' hh (hv.set (v := .int (x + Int32.ofInt n)) trivial rfl hl') hs hc1 hc2)
      | _ =>
        simp only [gi_inc, hi] at hT
theorem gs_ifnull {off : Int} {tg : Nat} (hd : decode cc pc = .ok (.ifnull off, 3)) (ht : (pc : Int) + off = (tg : Int)) : gx_s1 (cl, tyl, G, Ts, cc, my, nL, ret) pc (gi_nul tg (pc + 3)) := by
  rintro ⟨p, l, e, R, s, m, args, below, meth, c⟩ ⟨D, dT, sp, A, n0, ad0⟩ Fin lv st h bc bs K Q C ⟨⟨hx, hb, hml, hown, hnm0, hret⟩, hts, hK0, hA, hlk, hG⟩ hT hK ad H locs ls hh hv hs hc1 hc2
  rcases st with _ | ⟨v, st⟩
  · exact False.elim hT
  have hs' : gx_Rs st h.length := (fun w e1 => hs w (List.mem_cons_of_mem _ e1))
  cases v with
  | null => exact lv_ifnullN hx hb hd ht (hK _ hT ad H locs ls hh hv hs' hc1 hc2)
  | ref k => exact lv_ifnull hx hb hd (hK _ hT ad H locs ls hh hv hs' hc1 hc2)
  | _ => exact False.elim hT
theorem gs_ifnonnull {off : Int} {tg : Nat} (hd : decode cc pc = .ok (.ifnonnull off, 3)) (ht : (pc : Int) + off = (tg : Int)) : gx_s1 (cl, tyl, G, Ts, cc, my, nL, ret) pc (gi_nul (pc + 3) tg) := by
  rintro ⟨p, l, e, R, s, m, args, below, meth, c⟩ ⟨D, dT, sp, A, n0, ad0⟩ Fin lv st h bc bs K Q C ⟨⟨hx, hb, hml, hown, hnm0, hret⟩, hts, hK0, hA, hlk, hG⟩ hT hK ad H locs ls hh hv hs hc1 hc2
  rcases st with _ | ⟨v, st⟩
  · exact False.elim hT
  have hs' : gx_Rs st h.length := (fun w e1 => hs w (List.mem_cons_of_mem _ e1))
  cases v with
  | null => exact lv_ifnonnullN hx hb hd (hK _ hT ad H locs ls hh hv hs' hc1 hc2)
  | ref k => exact lv_ifnonnull hx hb hd ht (hK _ hT ad H locs ls hh hv hs' hc1 hc2)
  | _ => exact False.elim hT
theorem gx_narrow {ty : FieldType} {sp ad : Nat → Nat} {v : Value} (h : narrow ty (gx_r v) = gx_r v) : narrow ty (gx_v sp ad v) = gx_v sp ad v := by
  cases v with
  | ref k => cases ty <;> rfl
  | retAddr k => cases ty <;> rfl
  | _ => exact h
theorem gx_fits {ty : FieldType} {sp ad : Nat → Nat} {v : Value} (h : fits ty (gx_r v) = true) : fits ty (gx_v sp ad v) = true := by
  cases v with
  | ref k => cases ty <;> exact h
  | retAddr k => cases ty <;> exact h
  | _ => exact h
theorem gs_get {ci k idx N : Nat} {Cn : String} {T : u_T} (hc : cl[ci]? = some (Cn, T, N)) (hin : ∀ w ∈ u_ws Cn T N, w ∈ Ts) (hk : k < N) (hlink : Cond.fieldLink my.cls idx (T k).1 (T k).2.1 (T k).2.2.1 ∈ Ts) (hd : decode cc pc = .ok (.getfield idx, 3)) : gx_s1 (cl, tyl, G, Ts, cc, my, nL, ret) pc (gi_get ci k (pc + 3)) := by
  rintro ⟨p, l, e, R, s, m, args, below, meth, c⟩ ⟨D, dT, sp, A, n0, ad0⟩ Fin lv st h bc bs K Q C ⟨⟨hx, hb, hml, hown, hnm0, hret⟩, hts, hK0, hA, hlk, hG⟩ hT hK ad H locs ls hh hv hs hc1 hc2
  rcases st with _ | ⟨v0, st⟩
  · exact False.elim hT
  cases v0 with
  | ref a =>
    cases hcell : h[a]? with
    | none => simp only [gi_get, hcell] at hT
    | some ce =>
      obtain ⟨t0, x0⟩ | ⟨c0, fs⟩ := ce
      · simp only [gi_get, hcell] at hT
      · cases hb1 : Nat.beq c0 ci with
        | false => simp only [gi_get, hcell, hb1] at hT
        | true =>
          cases hf : fs[k]? with
          | none => simp only [gi_get, hcell, hb1, hf] at hT
          | some v =>
            simp only [gi_get, hcell, hb1, hf] at hT
            have e0 : c0 = ci := Nat.eq_of_beq_eq_true hb1
            subst e0
            obtain ⟨hP, hD, hS, hok, hn0, had⟩ := id hh
            have hvok : gx_ok h.length v := hok a _ hcell v (List.mem_of_getElem? hf)
            exact va_get hx hb hts hin hown hK0 hP a (gx_w_at hcell) hc k hk (hts _ hlink) (fun _ q => q) (v := gx_v sp ad v) (by rw [List.getElem?_map, hf]; rfl) hd (hK _ hT ad H locs ls hh hv (fun w hm => by
          rcases List.mem_cons.mp hm with e1 | e1
          · rw [e1]; exact hvok
          · exact hs w (List.mem_cons_of_mem _ e1)) hc1 hc2)
  | _ => exact False.elim hT
theorem gs_getN {ci k idx N : Nat} {Cn host : String} {T : u_T} (hc : cl[ci]? = some (Cn, T, N)) (hin : ∀ w ∈ u_ws Cn T N, w ∈ Ts) (hk : k < N) (hlink : Cond.fieldLinkNest my.cls idx (T k).1 (T k).2.1 (T k).2.2.1 host ∈ Ts) (hd : decode cc pc = .ok (.getfield idx, 3)) : gx_s1 (cl, tyl, G, Ts, cc, my, nL, ret) pc (gi_get ci k (pc + 3)) := by
  rintro ⟨p, l, e, R, s, m, args, below, meth, c⟩ ⟨D, dT, sp, A, n0, ad0⟩ Fin lv st h bc bs K Q C ⟨⟨hx, hb, hml, hown, hnm0, hret⟩, hts, hK0, hA, hlk, hG⟩ hT hK ad H locs ls hh hv hs hc1 hc2
  rcases st with _ | ⟨v0, st⟩
  · exact False.elim hT
  cases v0 with
  | ref a =>
    cases hcell : h[a]? with
    | none => simp only [gi_get, hcell] at hT
    | some ce =>
      obtain ⟨t0, x0⟩ | ⟨c0, fs⟩ := ce
      · simp only [gi_get, hcell] at hT
      · cases hb1 : Nat.beq c0 ci with
        | false => simp only [gi_get, hcell, hb1] at hT
        | true =>
          cases hf : fs[k]? with
          | none => simp only [gi_get, hcell, hb1, hf] at hT
          | some v =>
            simp only [gi_get, hcell, hb1, hf] at hT
            have e0 : c0 = ci := Nat.eq_of_beq_eq_true hb1
            subst e0
            obtain ⟨hP, hD, hS, hok, hn0, had⟩ := id hh
            have hvok : gx_ok h.length v := hok a _ hcell v (List.mem_of_getElem? hf)
            exact va_getN hx hb hts hin hown hK0 hP a (gx_w_at hcell) hc k hk (hts _ hlink) (fun _ q => q) (v := gx_v sp ad v) (by rw [List.getElem?_map, hf]; rfl) hd (hK _ hT ad H locs ls hh hv (fun w hm => by
          rcases List.mem_cons.mp hm with e1 | e1
          · rw [e1]; exact hvok
          · exact hs w (List.mem_cons_of_mem _ e1)) hc1 hc2)
  | _ => exact False.elim hT
theorem gs_putF {ci k idx N : Nat} {Cn : String} {T : u_T} {ty : FieldType} (hc : cl[ci]? = some (Cn, T, N)) (hin : ∀ w ∈ u_ws Cn T N, w ∈ Ts) (ty0 : Nat → FieldType) (hty : ∀ k, k < N → parseFieldDescriptor (T k).2.2.1 = some (ty0 k)) (hnm : ∀ a, a < N → ∀ b, b < N → a ≠ b → (T a).2.1 ≠ (T b).2.1) (hk : k < N) (hty1 : parseFieldDescriptor (T k).2.2.1 = some ty) (hlink : Cond.fieldLink my.cls idx (T k).1 (T k).2.1 (T k).2.2.1 ∈ Ts) (hfin : (T k).2.2.2 = true) (hini : my.name = "<init>") (hdecl : (T k).1 = my.cls) (hd : decode cc pc = .ok (.putfield idx, 3)) : gx_s1 (cl, tyl, G, Ts, cc, my, nL, ret) pc (gi_put ci k ty (pc + 3)) := by
  rintro ⟨p, l, e, R, s, m, args, below, meth, c⟩ ⟨D, dT, sp, A, n0, ad0⟩ Fin lv st h bc bs K Q C ⟨⟨hx, hb, hml, hown, hnm0, hret⟩, hts, hK0, hA, hlk, hG⟩ hT hK ad H locs ls hh hv hs hc1 hc2
  rcases st with _ | ⟨v, _ | ⟨v0, st⟩⟩
  · exact False.elim hT
  · exact False.elim hT
  cases v0 with
  | ref a =>
    cases hcell : h[a]? with
    | none => simp only [gi_put, hcell] at hT
    | some ce =>
      obtain ⟨t0, x0⟩ | ⟨c0, fs⟩ := ce
      · simp only [gi_put, hcell] at hT
      · cases hb1 : Nat.beq c0 ci with
        | false => simp only [gi_put, hcell, hb1] at hT
        | true =>
          cases hf : fs[k]? with
          | none => simp only [gi_put, hcell, hb1, hf] at hT
          | some v1 =>
            simp only [gi_put, hcell, hb1, hf] at hT
            have e0 : c0 = ci := Nat.eq_of_beq_eq_true hb1
            subst e0
            obtain ⟨⟨hna, hfi⟩, hT⟩ := hT
            obtain ⟨hP, hD, hS, hok, hn0, had⟩ := id hh
            have hvok : gx_ok h.length v := hs v List.mem_cons_self
            have hkl : k < fs.length := (List.getElem?_eq_some_iff.mp hf).1
            have ew : ∀ fs' : List Value, fs' = (fs.map (gx_v sp ad)).set k (gx_v sp ad v) → (gx_w dT sp ad h).set a (ad a, .inr (c0, fs')) = gx_w dT sp ad (h.set a (.inr (c0, fs.set k v))) := fun fs' e1 => by
              rw [← gx_w_set]
              show _ = (gx_w dT sp ad h).set a (ad a, Sum.inr (c0, (fs.set k v).map (gx_v sp ad)))
              rw [e1, List.map_set]
            refine va_putF hx hb hts hin ty0 hty hnm hown hK0 hP hD hS a (gx_w_at hcell) hc k hk (hts _ hlink) (fun _ q => q) hfin (hnm0.trans hini) hdecl (ty := ty) (v := gx_v sp ad v) hty1 (gx_narrow hna) (gx_fits hfi) (by rw [List.length_map]; exact hkl) hd (fun H1 locs1 hP1 hD1 hS1 => ?_)
            have el : (h.set a (.inr (c0, fs.set k v))).length = h.length := List.length_set
            rw [ew _ rfl] at hP1 hD1
            refine hK _ hT ad H1 locs1 ls ⟨hP1, hD1, hS1, hok.set (fun u hu => ?_), by rw [el]; exact hn0, had⟩ (by rw [el]; exact hv) (by rw [el]; exact (fun w e1 => hs w (List.mem_cons_of_mem _ (List.mem_cons_of_mem _ e1)))) hc1 hc2
            rcases List.mem_or_eq_of_mem_set hu with h9 | h9
            · exact hok a _ hcell u h9
            · rw [h9]; exact hvok
  | _ => exact False.elim hT
theorem gs_put {ci k idx N : Nat} {Cn : String} {T : u_T} {ty : FieldType} (hc : cl[ci]? = some (Cn, T, N)) (hin : ∀ w ∈ u_ws Cn T N, w ∈ Ts) (ty0 : Nat → FieldType) (hty : ∀ k, k < N → parseFieldDescriptor (T k).2.2.1 = some (ty0 k)) (hnm : ∀ a, a < N → ∀ b, b < N → a ≠ b → (T a).2.1 ≠ (T b).2.1) (hk : k < N) (hty1 : parseFieldDescriptor (T k).2.2.1 = some ty) (hlink : Cond.fieldLink my.cls idx (T k).1 (T k).2.1 (T k).2.2.1 ∈ Ts) (hfin : (T k).2.2.2 = false) (hd : decode cc pc = .ok (.putfield idx, 3)) : gx_s1 (cl, tyl, G, Ts, cc, my, nL, ret) pc (gi_put ci k ty (pc + 3)) := by
  rintro ⟨p, l, e, R, s, m, args, below, meth, c⟩ ⟨D, dT, sp, A, n0, ad0⟩ Fin lv st h bc bs K Q C ⟨⟨hx, hb, hml, hown, hnm0, hret⟩, hts, hK0, hA, hlk, hG⟩ hT hK ad H locs ls hh hv hs hc1 hc2
  rcases st with _ | ⟨v, _ | ⟨v0, st⟩⟩
  · exact False.elim hT
  · exact False.elim hT
  cases v0 with
  | ref a =>
    cases hcell : h[a]? with
    | none => simp only [gi_put, hcell] at hT
    | some ce =>
      obtain ⟨t0, x0⟩ | ⟨c0, fs⟩ := ce
      · simp only [gi_put, hcell] at hT
      · cases hb1 : Nat.beq c0 ci with
        | false => simp only [gi_put, hcell, hb1] at hT
        | true =>
          cases hf : fs[k]? with
          | none => simp only [gi_put, hcell, hb1, hf] at hT
          | some v1 =>
            simp only [gi_put, hcell, hb1, hf] at hT
            have e0 : c0 = ci := Nat.eq_of_beq_eq_true hb1
            subst e0
            obtain ⟨⟨hna, hfi⟩, hT⟩ := hT
            obtain ⟨hP, hD, hS, hok, hn0, had⟩ := id hh
            have hvok : gx_ok h.length v := hs v List.mem_cons_self
            have hkl : k < fs.length := (List.getElem?_eq_some_iff.mp hf).1
            have ew : ∀ fs' : List Value, fs' = (fs.map (gx_v sp ad)).set k (gx_v sp ad v) → (gx_w dT sp ad h).set a (ad a, .inr (c0, fs')) = gx_w dT sp ad (h.set a (.inr (c0, fs.set k v))) := fun fs' e1 => by
              rw [← gx_w_set]
              show _ = (gx_w dT sp ad h).set a (ad a, Sum.inr (c0, (fs.set k v).map (gx_v sp ad)))
              rw [e1, List.map_set]
            refine va_put hx hb hts hin ty0 hty hnm hown hK0 hP hD hS a (gx_w_at hcell) hc k hk (hts _ hlink) (fun _ q => q) hfin (ty := ty) (v := gx_v sp ad v) hty1 (gx_narrow hna) (gx_fits hfi) (by rw [List.length_map]; exact hkl) hd (fun H1 locs1 hP1 hD1 hS1 => ?_)
            have el : (h.set a (.inr (c0, fs.set k v))).length = h.length := List.length_set
            rw [ew _ rfl] at hP1 hD1
            refine hK _ hT ad H1 locs1 ls ⟨hP1, hD1, hS1, hok.set (fun u hu => ?_), by rw [el]; exact hn0, had⟩ (by rw [el]; exact hv) (by rw [el]; exact (fun w e1 => hs w (List.mem_cons_of_mem _ (List.mem_cons_of_mem _ e1)))) hc1 hc2
            rcases List.mem_or_eq_of_mem_set hu with h9 | h9
            · exact hok a _ hcell u h9
            · rw [h9]; exact hvok
  | _ => exact False.elim hT
theorem gs_iald {t : Nat} (ht : tyl[t]? = some .int) (hd : decode cc pc = .ok (.iaload, 1)) : gx_s1 (cl, tyl, G, Ts, cc, my, nL, ret) pc (gi_ald t (pc + 1)) := by
  rintro ⟨p, l, e, R, s, m, args, below, meth, c⟩ ⟨D, dT, sp, A, n0, ad0⟩ Fin lv st h bc bs K Q C ⟨⟨hx, hb, hml, hown, hnm0, hret⟩, hts, hK0, hA, hlk, hG⟩ hT hK ad H locs ls hh hv hs hc1 hc2
  rcases st with _ | ⟨v0, st⟩
  · exact False.elim hT
  cases v0 with
  | int i =>
    rcases st with _ | ⟨v1, st⟩
    · exact False.elim hT
    cases v1 with
    | ref a =>
      cases hcell : h[a]? with
      | none => simp only [gi_ald, hcell] at hT
      | some ce =>
        obtain ⟨t0, n, f | x0⟩ | ⟨c0, fs⟩ := ce
        · cases hb1 : Nat.beq t0 t with
          | false => simp only [gi_ald, hcell, hb1] at hT
          | true =>
            simp only [gi_ald, hcell, hb1] at hT
            have e0 : t0 = t := Nat.eq_of_beq_eq_true hb1
            subst e0
            exact va_iald hx hb hK0 hh.1 a t0 (gx_w_at hcell) (gx_ty_at ht) hT.1 hd (hK _ hT.2 ad H locs ls hh hv (fun w hm => by
          rcases List.mem_cons.mp hm with e1 | e1
          · rw [e1]; trivial
          · exact hs w (List.mem_cons_of_mem _ (List.mem_cons_of_mem _ e1))) hc1 hc2)
        · simp only [gi_ald, hcell] at hT
        · simp only [gi_ald, hcell] at hT
    | _ => exact False.elim hT
  | _ => exact False.elim hT
theorem gs_cald {t : Nat} (ht : tyl[t]? = some .char) (hd : decode cc pc = .ok (.caload, 1)) : gx_s1 (cl, tyl, G, Ts, cc, my, nL, ret) pc (gi_ald t (pc + 1)) := by
  rintro ⟨p, l, e, R, s, m, args, below, meth, c⟩ ⟨D, dT, sp, A, n0, ad0⟩ Fin lv st h bc bs K Q C ⟨⟨hx, hb, hml, hown, hnm0, hret⟩, hts, hK0, hA, hlk, hG⟩ hT hK ad H locs ls hh hv hs hc1 hc2
  rcases st with _ | ⟨v0, st⟩
  · exact False.elim hT
  cases v0 with
  | int i =>
    rcases st with _ | ⟨v1, st⟩
    · exact False.elim hT
    cases v1 with
    | ref a =>
      cases hcell : h[a]? with
      | none => simp only [gi_ald, hcell] at hT
      | some ce =>
        obtain ⟨t0, n, f | x0⟩ | ⟨c0, fs⟩ := ce
        · cases hb1 : Nat.beq t0 t with
          | false => simp only [gi_ald, hcell, hb1] at hT
          | true =>
            simp only [gi_ald, hcell, hb1] at hT
            have e0 : t0 = t := Nat.eq_of_beq_eq_true hb1
            subst e0
            exact va_cald hx hb hK0 hh.1 a t0 (gx_w_at hcell) (gx_ty_at ht) hT.1 hd (hK _ hT.2 ad H locs ls hh hv (fun w hm => by
          rcases List.mem_cons.mp hm with e1 | e1
          · rw [e1]; trivial
          · exact hs w (List.mem_cons_of_mem _ (List.mem_cons_of_mem _ e1))) hc1 hc2)
        · simp only [gi_ald, hcell] at hT
        · simp only [gi_ald, hcell] at hT
    | _ => exact False.elim hT
  | _ => exact False.elim hT
theorem gs_zald {t : Nat} (ht : tyl[t]? = some .boolean) (hd : decode cc pc = .ok (.baload, 1)) : gx_s1 (cl, tyl, G, Ts, cc, my, nL, ret) pc (gi_ald t (pc + 1)) := by
  rintro ⟨p, l, e, R, s, m, args, below, meth, c⟩ ⟨D, dT, sp, A, n0, ad0⟩ Fin lv st h bc bs K Q C ⟨⟨hx, hb, hml, hown, hnm0, hret⟩, hts, hK0, hA, hlk, hG⟩ hT hK ad H locs ls hh hv hs hc1 hc2
  rcases st with _ | ⟨v0, st⟩
  · exact False.elim hT
  cases v0 with
  | int i =>
    rcases st with _ | ⟨v1, st⟩
    · exact False.elim hT
    cases v1 with
    | ref a =>
      cases hcell : h[a]? with
      | none => simp only [gi_ald, hcell] at hT
      | some ce =>
        obtain ⟨t0, n, f | x0⟩ | ⟨c0, fs⟩ := ce
        · cases hb1 : Nat.beq t0 t with
          | false => simp only [gi_ald, hcell, hb1] at hT
          | true =>
            simp only [gi_ald, hcell, hb1] at hT
            have e0 : t0 = t := Nat.eq_of_beq_eq_true hb1
            subst e0
            exact va_zald hx hb hK0 hh.1 a t0 (gx_w_at hcell) (gx_ty_at ht) hT.1 hd (hK _ hT.2 ad H locs ls hh hv (fun w hm => by
          rcases List.mem_cons.mp hm with e1 | e1
          · rw [e1]; trivial
          · exact hs w (List.mem_cons_of_mem _ (List.mem_cons_of_mem _ e1))) hc1 hc2)
        · simp only [gi_ald, hcell] at hT
        · simp only [gi_ald, hcell] at hT
    | _ => exact False.elim hT
  | _ => exact False.elim hT
theorem gs_iast {t : Nat} (ht : tyl[t]? = some .int) (hd : decode cc pc = .ok (.iastore, 1)) : gx_s1 (cl, tyl, G, Ts, cc, my, nL, ret) pc (gi_ast t (fun z => z) (pc + 1)) := by
  rintro ⟨p, l, e, R, s, m, args, below, meth, c⟩ ⟨D, dT, sp, A, n0, ad0⟩ Fin lv st h bc bs K Q C ⟨⟨hx, hb, hml, hown, hnm0, hret⟩, hts, hK0, hA, hlk, hG⟩ hT hK ad H locs ls hh hv hs hc1 hc2
  rcases st with _ | ⟨v0, st⟩
  · exact False.elim hT
  cases v0 with
  | int x =>
    rcases st with _ | ⟨v1, st⟩
    · exact False.elim hT
    cases v1 with
    | int i =>
      rcases st with _ | ⟨v2, st⟩
      · exact False.elim hT
      cases v2 with
      | ref a =>
        cases hcell : h[a]? with
        | none => simp only [gi_ast, hcell] at hT
        | some ce =>
          obtain ⟨t0, n, f | x0⟩ | ⟨c0, fs⟩ := ce
          · cases hb1 : Nat.beq t0 t with
            | false => simp only [gi_ast, hcell, hb1] at hT
            | true =>
              simp only [gi_ast, hcell, hb1] at hT
              have e0 : t0 = t := Nat.eq_of_beq_eq_true hb1
              subst e0
              obtain ⟨hP, hD, hS, hok, hn0, had⟩ := id hh
              refine va_iast hx hb hK0 hP hD hS a t0 (gx_w_at hcell) (gx_ty_at ht) hT.1 hd (fun H1 locs1 hP1 hD1 hS1 => ?_)
              have ew : (gx_w dT sp ad h).set a (ad a, .inl (dT t0, n, .inl (upd f i.toNatClampNeg ((fun z => z) x)))) = gx_w dT sp ad (h.set a (.inl (t0, n, .inl (upd f i.toNatClampNeg ((fun z => z) x))))) := gx_w_set dT sp ad h a (.inl (t0, n, .inl (upd f i.toNatClampNeg ((fun z => z) x))))
              have el : (h.set a (.inl (t0, n, .inl (upd f i.toNatClampNeg ((fun z => z) x))))).length = h.length := List.length_set
              have hP1' : va_P D cl (gx_w dT sp ad (h.set a (.inl (t0, n, .inl (upd f i.toNatClampNeg ((fun z => z) x)))))) H1 := by rw [← ew]; exact hP1
              have hD1' : va_D A (gx_w dT sp ad (h.set a (.inl (t0, n, .inl (upd f i.toNatClampNeg ((fun z => z) x)))))) := by rw [← ew]; exact hD1
              exact hK _ hT.2 ad H1 locs1 ls ⟨hP1', hD1', hS1, hok.set trivial, by rw [el]; exact hn0, had⟩ (by rw [el]; exact hv) (by rw [el]; exact (fun w e1 => hs w (List.mem_cons_of_mem _ (List.mem_cons_of_mem _ (List.mem_cons_of_mem _ e1))))) hc1 hc2
          · simp only [gi_ast, hcell] at hT
          · simp only [gi_ast, hcell] at hT
      | _ => exact False.elim hT
    | _ => exact False.elim hT
  | _ => exact False.elim hT
theorem gs_cast {t : Nat} (ht : tyl[t]? = some .char) (hd : decode cc pc = .ok (.castore, 1)) : gx_s1 (cl, tyl, G, Ts, cc, my, nL, ret) pc (gi_ast t (vp_nar .char) (pc + 1)) := by
  rintro ⟨p, l, e, R, s, m, args, below, meth, c⟩ ⟨D, dT, sp, A, n0, ad0⟩ Fin lv st h bc bs K Q C ⟨⟨hx, hb, hml, hown, hnm0, hret⟩, hts, hK0, hA, hlk, hG⟩ hT hK ad H locs ls hh hv hs hc1 hc2
  rcases st with _ | ⟨v0, st⟩
  · exact False.elim hT
  cases v0 with
  | int x =>
    rcases st with _ | ⟨v1, st⟩
    · exact False.elim hT
    cases v1 with
    | int i =>
      rcases st with _ | ⟨v2, st⟩
      · exact False.elim hT
      cases v2 with
      | ref a =>
        cases hcell : h[a]? with
        | none => simp only [gi_ast, hcell] at hT
        | some ce =>
          obtain ⟨t0, n, f | x0⟩ | ⟨c0, fs⟩ := ce
          · cases hb1 : Nat.beq t0 t with
            | false => simp only [gi_ast, hcell, hb1] at hT
            | true =>
              simp only [gi_ast, hcell, hb1] at hT
              have e0 : t0 = t := Nat.eq_of_beq_eq_true hb1
              subst e0
              obtain ⟨hP, hD, hS, hok, hn0, had⟩ := id hh
              refine va_cast hx hb hK0 hP hD hS a t0 (gx_w_at hcell) (gx_ty_at ht) hT.1 hd (fun H1 locs1 hP1 hD1 hS1 => ?_)
              have ew : (gx_w dT sp ad h).set a (ad a, .inl (dT t0, n, .inl (upd f i.toNatClampNeg ((vp_nar .char) x)))) = gx_w dT sp ad (h.set a (.inl (t0, n, .inl (upd f i.toNatClampNeg ((vp_nar .char) x))))) := gx_w_set dT sp ad h a (.inl (t0, n, .inl (upd f i.toNatClampNeg ((vp_nar .char) x))))
              have el : (h.set a (.inl (t0, n, .inl (upd f i.toNatClampNeg ((vp_nar .char) x))))).length = h.length := List.length_set
              have hP1' : va_P D cl (gx_w dT sp ad (h.set a (.inl (t0, n, .inl (upd f i.toNatClampNeg ((vp_nar .char) x)))))) H1 := by rw [← ew]; exact hP1
              have hD1' : va_D A (gx_w dT sp ad (h.set a (.inl (t0, n, .inl (upd f i.toNatClampNeg ((vp_nar .char) x)))))) := by rw [← ew]; exact hD1
              exact hK _ hT.2 ad H1 locs1 ls ⟨hP1', hD1', hS1, hok.set trivial, by rw [el]; exact hn0, had⟩ (by rw [el]; exact hv) (by rw [el]; exact (fun w e1 => hs w (List.mem_cons_of_mem _ (List.mem_cons_of_mem _ (List.mem_cons_of_mem _ e1))))) hc1 hc2
          · simp only [gi_ast, hcell] at hT
          · simp only [gi_ast, hcell] at hT
      | _ => exact False.elim hT
    | _ => exact False.elim hT
  | _ => exact False.elim hT
theorem gs_zast {t : Nat} (ht : tyl[t]? = some .boolean) (hd : decode cc pc = .ok (.bastore, 1)) : gx_s1 (cl, tyl, G, Ts, cc, my, nL, ret) pc (gi_ast t (vp_nar .boolean) (pc + 1)) := by
  rintro ⟨p, l, e, R, s, m, args, below, meth, c⟩ ⟨D, dT, sp, A, n0, ad0⟩ Fin lv st h bc bs K Q C ⟨⟨hx, hb, hml, hown, hnm0, hret⟩, hts, hK0, hA, hlk, hG⟩ hT hK ad H locs ls hh hv hs hc1 hc2
  rcases st with _ | ⟨v0, st⟩
  · exact False.elim hT
  cases v0 with
  | int x =>
    rcases st with _ | ⟨v1, st⟩
    · exact False.elim hT
    cases v1 with
    | int i =>
      rcases st with _ | ⟨v2, st⟩
      · exact False.elim hT
      cases v2 with
      | ref a =>
        cases hcell : h[a]? with
        | none => simp only [gi_ast, hcell] at hT
        | some ce =>
          obtain ⟨t0, n, f | x0⟩ | ⟨c0, fs⟩ := ce
          · cases hb1 : Nat.beq t0 t with
            | false => simp only [gi_ast, hcell, hb1] at hT
            | true =>
              simp only [gi_ast, hcell, hb1] at hT
              have e0 : t0 = t := Nat.eq_of_beq_eq_true hb1
              subst e0
              obtain ⟨hP, hD, hS, hok, hn0, had⟩ := id hh
              refine va_zast hx hb hK0 hP hD hS a t0 (gx_w_at hcell) (gx_ty_at ht) hT.1 hd (fun H1 locs1 hP1 hD1 hS1 => ?_)
              have ew : (gx_w dT sp ad h).set a (ad a, .inl (dT t0, n, .inl (upd f i.toNatClampNeg ((vp_nar .boolean) x)))) = gx_w dT sp ad (h.set a (.inl (t0, n, .inl (upd f i.toNatClampNeg ((vp_nar .boolean) x))))) := gx_w_set dT sp ad h a (.inl (t0, n, .inl (upd f i.toNatClampNeg ((vp_nar .boolean) x))))
              have el : (h.set a (.inl (t0, n, .inl (upd f i.toNatClampNeg ((vp_nar .boolean) x))))).length = h.length := List.length_set
              have hP1' : va_P D cl (gx_w dT sp ad (h.set a (.inl (t0, n, .inl (upd f i.toNatClampNeg ((vp_nar .boolean) x)))))) H1 := by rw [← ew]; exact hP1
              have hD1' : va_D A (gx_w dT sp ad (h.set a (.inl (t0, n, .inl (upd f i.toNatClampNeg ((vp_nar .boolean) x)))))) := by rw [← ew]; exact hD1
              exact hK _ hT.2 ad H1 locs1 ls ⟨hP1', hD1', hS1, hok.set trivial, by rw [el]; exact hn0, had⟩ (by rw [el]; exact hv) (by rw [el]; exact (fun w e1 => hs w (List.mem_cons_of_mem _ (List.mem_cons_of_mem _ (List.mem_cons_of_mem _ e1))))) hc1 hc2
          · simp only [gi_ast, hcell] at hT
          · simp only [gi_ast, hcell] at hT
      | _ => exact False.elim hT
    | _ => exact False.elim hT
  | _ => exact False.elim hT
end GXS
end
section
/-! Ends, new cells, calls. Written by wip/tools/calls.py. -/
section GXC
variable {cl : List vw_C} {tyl : List FieldType} {Ts : List Cond} {G : (Nat → Nat) → (Nat → Prop) → State → Heap → Prop} {cc : ByteArray} {my : MethodName} {nL : Nat} {ret : Option FieldType} {pc nx : Nat}
/-- a heap behind a method -/
def gx_Re (cl : List vw_C) (y : gx_D) (h : gx_H) (ad : Nat → Nat) (st t : State) : Prop := match y with
  | (D, dT, sp, A, n0, ad0) => (va_P D cl (gx_w dT sp ad h) t.heap ∧ va_D A (gx_w dT sp ad h) ∧ gx_okH h ∧ n0 ≤ h.length ∧ ∀ k, k < n0 → ad k = ad0 k) ∧ va_F A st t
def gx_Q (cl : List vw_C) (y : gx_D) (Q : gx_R → Prop) : Array Value → State → Outcome → State → Prop := fun _ st o t => ∃ (v : Option Value) (h : gx_H) (ad : Nat → Nat), Q (.inl v, h) ∧ o = .returned (v.map (gx_v y.2.2.1 ad)) ∧ (∀ u, v = some u → gx_ok h.length u) ∧ gx_Re cl y h ad st t
def gx_XC (cl : List vw_C) (y : gx_D) (Q : gx_R → Prop) : String → State → State → Prop := fun E st t => ∃ (h : gx_H) (ad : Nat → Nat), Q (.inr E, h) ∧ gx_Re cl y h ad st t
def gx_Fin (z : gx_M) (x : gx_C) (y : gx_D) (Q : gx_R → Prop) : State → Prop := match z, x, y with
  | (cl, _, _, _, _, _, _, _), (_, _, _, R, s, _, args, below, _, _), (D, dT, sp, A, n0, ad0) => vx_MQ below (gx_Q cl (D, dT, sp, A, n0, ad0) Q) (gx_XC cl (D, dT, sp, A, n0, ad0) Q) args s R.cells R.slots A
/-- an instruction that ends the method is right at pc -/
def gx_sR (z : gx_M) (pc : Nat) (T : gx_T) : Prop := ∀ (x : gx_C) (y : gx_D) (lv : List (Option Value)) (st : List Value) (h : gx_H) (bc bs : Nat) (K : gx_S → Prop) (Q : gx_R → Prop) (C : Nat → gx_S → (gx_R → Prop) → Prop),
  gx_Cx z x y → T (pc, lv, st, h, bc, bs) K Q C → gx_Gd z x y (gx_Fin z x y Q) (pc, lv, st, h, bc, bs)
theorem gs_iret {ty : FieldType} (hd : decode cc pc = .ok (.ireturn, 1)) : gx_sR (cl, tyl, G, Ts, cc, my, nL, some ty) pc (gi_iret ty) := by
  rintro ⟨p, l, e, R, s, m, args, below, meth, c⟩ ⟨D, dT, sp, A, n0, ad0⟩  lv st h bc bs K Q C ⟨⟨hx, hb, hml, hown, hnm0, hret⟩, hts, hK0, hA, hlk, hG⟩ hT ad H locs ls hh hv hs hc1 hc2
  rcases st with _ | ⟨v, st⟩
  · exact False.elim hT
  cases v with
  | int a =>
    rcases st with _ | ⟨v, st⟩
    · obtain ⟨hn, hQ⟩ := hT
      obtain ⟨hP, hD, hS, hok, hn0, had⟩ := hh
      refine vx_ret (W.widen (k := R.cells) (n := R.slots) (Nat.sub_le _ _) (Nat.sub_le _ _) ?_)
      exact W.zret hx hb hret hn (fun t ht hW => ⟨some (.int a), h, ad, hQ, rfl, (fun u hu => by cases hu; trivial), ⟨by rw [ht]; exact hP, hD, hok, hn0, had⟩, hS.F ht⟩) hS.2.2 hd hlk
    · exact False.elim hT
  | _ => exact False.elim hT
theorem gs_ret (hd : decode cc pc = .ok (.return_, 1)) : gx_sR (cl, tyl, G, Ts, cc, my, nL, none) pc gi_ret := by
  rintro ⟨p, l, e, R, s, m, args, below, meth, c⟩ ⟨D, dT, sp, A, n0, ad0⟩  lv st h bc bs K Q C ⟨⟨hx, hb, hml, hown, hnm0, hret⟩, hts, hK0, hA, hlk, hG⟩ hT ad H locs ls hh hv hs hc1 hc2
  rcases st with _ | ⟨v, st⟩
  · obtain ⟨hP, hD, hS, hok, hn0, had⟩ := hh
    refine vx_ret (W.widen (k := R.cells) (n := R.slots) (Nat.sub_le _ _) (Nat.sub_le _ _) ?_)
    exact W.vret hx hb hret (fun t ht hW => ⟨none, h, ad, hT, rfl, (fun u hu => by cases hu), ⟨by rw [ht]; exact hP, hD, hok, hn0, had⟩, hS.F ht⟩) hS.2.2 hd hlk
  · exact False.elim hT
theorem gs_newi {t : Nat} (ht : tyl[t]? = some .int) (hw : Cond.arrayClass .int ∈ Ts) (hd : decode cc pc = .ok (.newarray .int, 2)) : gx_s1 (cl, tyl, G, Ts, cc, my, nL, ret) pc (gi_newa t (pc + 2)) := by
  rintro ⟨p, l, e, R, s, m, args, below, meth, c⟩ ⟨D, dT, sp, A, n0, ad0⟩ Fin lv st h bc bs K Q C ⟨⟨hx, hb, hml, hown, hnm0, hret⟩, hts, hK0, hA, hlk, hG⟩ hT hK ad H locs ls hh hv hs hc1 hc2
  rcases st with _ | ⟨v, st⟩
  · exact False.elim hT
  cases v with
  | int n =>
    obtain ⟨⟨hn, hby⟩, ⟨hb1, hb2⟩, hT⟩ := hT
    obtain ⟨hP, hD, hS, hok, hn0, had⟩ := hh
    refine va_newa (atype := .int) hx hb (hts _ hw) rfl hK0 hP hD hS hA (a0 := (n.toNatClampNeg, .inl (fun _ => 0))) (fun cA => rfl) hn rfl (Nat.le_trans (Nat.mul_le_mul_left _ (by decide)) hby) (by omega) (by omega) hd (fun q cA H1 hK1 hP1 hD1 hS1 => ?_)
    have e1 : cA = dT t := by
      have h1 : s.vm.findClass ("[" ++ (FieldType.int).toString) = some cA := (hK1.2 (gx_ty dT tyl).length (cA, .int) (by rw [List.getElem?_append_right (Nat.le_refl _), Nat.sub_self]; rfl)).2
      have h2 : s.vm.findClass ("[" ++ (FieldType.int).toString) = some (dT t) := (hK0.2 t (dT t, .int) (gx_ty_at ht)).2
      exact Option.some.inj (h1.symm.trans h2)
    subst e1
    have hlen : (h ++ [(Sum.inl (t, n.toNatClampNeg, Sum.inl (fun _ => 0)) : gx_E)]).length = h.length + 1 := by simp
    have hext : ∀ k, k < h.length → (fun k => if k = h.length then q else ad k) k = ad k := fun k hk => if_neg (Nat.ne_of_lt hk)
    have ew : gx_w dT sp (fun k => if k = h.length then q else ad k) (h ++ [(Sum.inl (t, n.toNatClampNeg, Sum.inl (fun _ => 0)) : gx_E)]) = gx_w dT sp ad h ++ [(q, .inl (dT t, n.toNatClampNeg, .inl (fun _ => 0)))] := by
      rw [gx_w.push (ad := ad) _ hok hext]
      congr 1
      show [((if h.length = h.length then q else ad h.length), _)] = _
      rw [if_pos rfl]
      rfl
    have hst : (st.map (gx_v sp ad)) = st.map (gx_v sp (fun k => if k = h.length then q else ad k)) := List.map_congr_left (fun v hm => (gx_v.ext (hs v (List.mem_cons_of_mem _ hm)) hext).symm)
    rw [show R.cells - bc + 1 = R.cells - (bc - 1) by omega, show R.slots - bs + n.toNatClampNeg = R.slots - (bs - n.toNatClampNeg) by omega, hst]
    have hg := hK _ hT (fun k => if k = h.length then q else ad k) H1 locs ls ⟨by rw [ew]; exact hP1, by rw [ew]; exact hD1, hS1, hok.push trivial, by rw [hlen]; omega, fun k hk => (hext k (Nat.lt_of_lt_of_le hk hn0)).trans (had k hk)⟩
      ⟨hv.1, hv.2.1, hv.2.2.1, fun i v hi => ⟨by rw [gx_v.ext (hv.2.2.2 i v hi).2.1 hext]; exact (hv.2.2.2 i v hi).1, (hv.2.2.2 i v hi).2.1.le (by rw [hlen]; omega), (hv.2.2.2 i v hi).2.2⟩⟩
      (fun v hm => by
        rcases List.mem_cons.mp hm with e1 | e1
        · rw [e1]; show h.length < (h ++ [_]).length; rw [hlen]; omega
        · exact (hs v (List.mem_cons_of_mem _ e1)).le (by rw [hlen]; omega)) (by omega) (by omega)
    rw [List.map_cons] at hg
    have e0 : gx_v sp (fun k => if k = h.length then q else ad k) (.ref h.length) = .ref q := by
      show Value.ref (if h.length = h.length then q else ad h.length) = .ref q
      rw [if_pos rfl]
    rw [e0] at hg
    exact hg
  | _ => exact False.elim hT
theorem gs_newc {t : Nat} (ht : tyl[t]? = some .char) (hw : Cond.arrayClass .char ∈ Ts) (hd : decode cc pc = .ok (.newarray .char, 2)) : gx_s1 (cl, tyl, G, Ts, cc, my, nL, ret) pc (gi_newa t (pc + 2)) := by
  rintro ⟨p, l, e, R, s, m, args, below, meth, c⟩ ⟨D, dT, sp, A, n0, ad0⟩ Fin lv st h bc bs K Q C ⟨⟨hx, hb, hml, hown, hnm0, hret⟩, hts, hK0, hA, hlk, hG⟩ hT hK ad H locs ls hh hv hs hc1 hc2
  rcases st with _ | ⟨v, st⟩
  · exact False.elim hT
  cases v with
  | int n =>
    obtain ⟨⟨hn, hby⟩, ⟨hb1, hb2⟩, hT⟩ := hT
    obtain ⟨hP, hD, hS, hok, hn0, had⟩ := hh
    refine va_newa (atype := .char) hx hb (hts _ hw) rfl hK0 hP hD hS hA (a0 := (n.toNatClampNeg, .inl (fun _ => 0))) (fun cA => rfl) hn rfl (Nat.le_trans (Nat.mul_le_mul_left _ (by decide)) hby) (by omega) (by omega) hd (fun q cA H1 hK1 hP1 hD1 hS1 => ?_)
    have e1 : cA = dT t := by
      have h1 : s.vm.findClass ("[" ++ (FieldType.char).toString) = some cA := (hK1.2 (gx_ty dT tyl).length (cA, .char) (by rw [List.getElem?_append_right (Nat.le_refl _), Nat.sub_self]; rfl)).2
      have h2 : s.vm.findClass ("[" ++ (FieldType.char).toString) = some (dT t) := (hK0.2 t (dT t, .char) (gx_ty_at ht)).2
      exact Option.some.inj (h1.symm.trans h2)
    subst e1
    have hlen : (h ++ [(Sum.inl (t, n.toNatClampNeg, Sum.inl (fun _ => 0)) : gx_E)]).length = h.length + 1 := by simp
    have hext : ∀ k, k < h.length → (fun k => if k = h.length then q else ad k) k = ad k := fun k hk => if_neg (Nat.ne_of_lt hk)
    have ew : gx_w dT sp (fun k => if k = h.length then q else ad k) (h ++ [(Sum.inl (t, n.toNatClampNeg, Sum.inl (fun _ => 0)) : gx_E)]) = gx_w dT sp ad h ++ [(q, .inl (dT t, n.toNatClampNeg, .inl (fun _ => 0)))] := by
      rw [gx_w.push (ad := ad) _ hok hext]
      congr 1
      show [((if h.length = h.length then q else ad h.length), _)] = _
      rw [if_pos rfl]
      rfl
    have hst : (st.map (gx_v sp ad)) = st.map (gx_v sp (fun k => if k = h.length then q else ad k)) := List.map_congr_left (fun v hm => (gx_v.ext (hs v (List.mem_cons_of_mem _ hm)) hext).symm)
    rw [show R.cells - bc + 1 = R.cells - (bc - 1) by omega, show R.slots - bs + n.toNatClampNeg = R.slots - (bs - n.toNatClampNeg) by omega, hst]
    have hg := hK _ hT (fun k => if k = h.length then q else ad k) H1 locs ls ⟨by rw [ew]; exact hP1, by rw [ew]; exact hD1, hS1, hok.push trivial, by rw [hlen]; omega, fun k hk => (hext k (Nat.lt_of_lt_of_le hk hn0)).trans (had k hk)⟩
      ⟨hv.1, hv.2.1, hv.2.2.1, fun i v hi => ⟨by rw [gx_v.ext (hv.2.2.2 i v hi).2.1 hext]; exact (hv.2.2.2 i v hi).1, (hv.2.2.2 i v hi).2.1.le (by rw [hlen]; omega), (hv.2.2.2 i v hi).2.2⟩⟩
      (fun v hm => by
        rcases List.mem_cons.mp hm with e1 | e1
        · rw [e1]; show h.length < (h ++ [_]).length; rw [hlen]; omega
        · exact (hs v (List.mem_cons_of_mem _ e1)).le (by rw [hlen]; omega)) (by omega) (by omega)
    rw [List.map_cons] at hg
    have e0 : gx_v sp (fun k => if k = h.length then q else ad k) (.ref h.length) = .ref q := by
      show Value.ref (if h.length = h.length then q else ad h.length) = .ref q
      rw [if_pos rfl]
    rw [e0] at hg
    exact hg
  | _ => exact False.elim hT
theorem gs_newz {t : Nat} (ht : tyl[t]? = some .boolean) (hw : Cond.arrayClass .boolean ∈ Ts) (hd : decode cc pc = .ok (.newarray .boolean, 2)) : gx_s1 (cl, tyl, G, Ts, cc, my, nL, ret) pc (gi_newa t (pc + 2)) := by
  rintro ⟨p, l, e, R, s, m, args, below, meth, c⟩ ⟨D, dT, sp, A, n0, ad0⟩ Fin lv st h bc bs K Q C ⟨⟨hx, hb, hml, hown, hnm0, hret⟩, hts, hK0, hA, hlk, hG⟩ hT hK ad H locs ls hh hv hs hc1 hc2
  rcases st with _ | ⟨v, st⟩
  · exact False.elim hT
  cases v with
  | int n =>
    obtain ⟨⟨hn, hby⟩, ⟨hb1, hb2⟩, hT⟩ := hT
    obtain ⟨hP, hD, hS, hok, hn0, had⟩ := hh
    refine va_newa (atype := .boolean) hx hb (hts _ hw) rfl hK0 hP hD hS hA (a0 := (n.toNatClampNeg, .inl (fun _ => 0))) (fun cA => rfl) hn rfl (Nat.le_trans (Nat.mul_le_mul_left _ (by decide)) hby) (by omega) (by omega) hd (fun q cA H1 hK1 hP1 hD1 hS1 => ?_)
    have e1 : cA = dT t := by
      have h1 : s.vm.findClass ("[" ++ (FieldType.boolean).toString) = some cA := (hK1.2 (gx_ty dT tyl).length (cA, .boolean) (by rw [List.getElem?_append_right (Nat.le_refl _), Nat.sub_self]; rfl)).2
      have h2 : s.vm.findClass ("[" ++ (FieldType.boolean).toString) = some (dT t) := (hK0.2 t (dT t, .boolean) (gx_ty_at ht)).2
      exact Option.some.inj (h1.symm.trans h2)
    subst e1
    have hlen : (h ++ [(Sum.inl (t, n.toNatClampNeg, Sum.inl (fun _ => 0)) : gx_E)]).length = h.length + 1 := by simp
    have hext : ∀ k, k < h.length → (fun k => if k = h.length then q else ad k) k = ad k := fun k hk => if_neg (Nat.ne_of_lt hk)
    have ew : gx_w dT sp (fun k => if k = h.length then q else ad k) (h ++ [(Sum.inl (t, n.toNatClampNeg, Sum.inl (fun _ => 0)) : gx_E)]) = gx_w dT sp ad h ++ [(q, .inl (dT t, n.toNatClampNeg, .inl (fun _ => 0)))] := by
      rw [gx_w.push (ad := ad) _ hok hext]
      congr 1
      show [((if h.length = h.length then q else ad h.length), _)] = _
      rw [if_pos rfl]
      rfl
    have hst : (st.map (gx_v sp ad)) = st.map (gx_v sp (fun k => if k = h.length then q else ad k)) := List.map_congr_left (fun v hm => (gx_v.ext (hs v (List.mem_cons_of_mem _ hm)) hext).symm)
    rw [show R.cells - bc + 1 = R.cells - (bc - 1) by omega, show R.slots - bs + n.toNatClampNeg = R.slots - (bs - n.toNatClampNeg) by omega, hst]
    have hg := hK _ hT (fun k => if k = h.length then q else ad k) H1 locs ls ⟨by rw [ew]; exact hP1, by rw [ew]; exact hD1, hS1, hok.push trivial, by rw [hlen]; omega, fun k hk => (hext k (Nat.lt_of_lt_of_le hk hn0)).trans (had k hk)⟩
      ⟨hv.1, hv.2.1, hv.2.2.1, fun i v hi => ⟨by rw [gx_v.ext (hv.2.2.2 i v hi).2.1 hext]; exact (hv.2.2.2 i v hi).1, (hv.2.2.2 i v hi).2.1.le (by rw [hlen]; omega), (hv.2.2.2 i v hi).2.2⟩⟩
      (fun v hm => by
        rcases List.mem_cons.mp hm with e1 | e1
        · rw [e1]; show h.length < (h ++ [_]).length; rw [hlen]; omega
        · exact (hs v (List.mem_cons_of_mem _ e1)).le (by rw [hlen]; omega)) (by omega) (by omega)
    rw [List.map_cons] at hg
    have e0 : gx_v sp (fun k => if k = h.length then q else ad k) (.ref h.length) = .ref q := by
      show Value.ref (if h.length = h.length then q else ad h.length) = .ref q
      rw [if_pos rfl]
    rw [e0] at hg
    exact hg
  | _ => exact False.elim hT
theorem gs_new {ci N idx : Nat} {Cn : String} {T : u_T} {fs : List Value} (hc : cl[ci]? = some (Cn, T, N)) (hin : ∀ w ∈ u_ws Cn T N, w ∈ Ts) (ty0 : Nat → FieldType) (hty : ∀ k, k < N → parseFieldDescriptor (T k).2.2.1 = some (ty0 k)) (hfs : ∀ j, j < N → defaultValue (ty0 j) = vp_V fs j) (hf0 : ∀ u ∈ fs, gx_ok 0 u ∧ ∀ sp ad, gx_v sp ad u = u) (hlink : Cond.classLink my.cls idx Cn ∈ Ts) (hinst : Cond.instantiable Cn N ∈ Ts) (hini : Cond.initialized Cn ∈ Ts) (hd : decode cc pc = .ok (.new idx, 3)) : gx_s1 (cl, tyl, G, Ts, cc, my, nL, ret) pc (gi_new ci N fs (pc + 3)) := by
  rintro ⟨p, l, e, R, s, m, args, below, meth, c⟩ ⟨D, dT, sp, A, n0, ad0⟩ Fin lv st h bc bs K Q C ⟨⟨hx, hb, hml, hown, hnm0, hret⟩, hts, hK0, hA, hlk, hG⟩ hT hK ad H locs ls hh hv hs hc1 hc2
  obtain ⟨hP, hD, hS, hok, hn0, had⟩ := hh
  obtain ⟨⟨hb1, hb2⟩, hT⟩ := hT
  refine va_new hx hb hts hin ty0 hty hown (hts _ hlink) (hts _ hinst) (hts _ hini) hK0 hP hD hS hA hc (fs := fs) hfs (by omega) (by omega) hd (fun q H1 hP1 hD1 hS1 => ?_)
  have hlen : (h ++ [(Sum.inr (ci, fs) : gx_E)]).length = h.length + 1 := by simp
  have hext : ∀ k, k < h.length → (fun k => if k = h.length then q else ad k) k = ad k := fun k hk => if_neg (Nat.ne_of_lt hk)
  have ew : gx_w dT sp (fun k => if k = h.length then q else ad k) (h ++ [(Sum.inr (ci, fs) : gx_E)]) = gx_w dT sp ad h ++ [(q, .inr (ci, fs))] := by
    rw [gx_w.push (ad := ad) _ hok hext]
    congr 1
    show [((if h.length = h.length then q else ad h.length), _)] = _
    rw [if_pos rfl]
    show [(q, Sum.inr (ci, fs.map (gx_v sp _)))] = _
    rw [List.map_congr_left (g := fun v => v) (fun v hv => (hf0 v hv).2 _ _), List.map_id']
  have hst : (st.map (gx_v sp ad)) = st.map (gx_v sp (fun k => if k = h.length then q else ad k)) := List.map_congr_left (fun v hm => (gx_v.ext (hs v hm) hext).symm)
  rw [show R.cells - bc + 1 = R.cells - (bc - 1) by omega, show R.slots - bs + N = R.slots - (bs - N) by omega, hst]
  have hg := hK _ hT (fun k => if k = h.length then q else ad k) H1 locs ls ⟨by rw [ew]; exact hP1, by rw [ew]; exact hD1, hS1, hok.push (fun u hu => (hf0 u hu).1.le (Nat.zero_le _)), by rw [hlen]; omega, fun k hk => (hext k (Nat.lt_of_lt_of_le hk hn0)).trans (had k hk)⟩
    ⟨hv.1, hv.2.1, hv.2.2.1, fun i v hi => ⟨by rw [gx_v.ext (hv.2.2.2 i v hi).2.1 hext]; exact (hv.2.2.2 i v hi).1, (hv.2.2.2 i v hi).2.1.le (by rw [hlen]; omega), (hv.2.2.2 i v hi).2.2⟩⟩
    (fun v hm => by
      rcases List.mem_cons.mp hm with e1 | e1
      · rw [e1]; show h.length < (h ++ [_]).length; rw [hlen]; omega
      · exact (hs v e1).le (by rw [hlen]; omega)) (by omega) (by omega)
  rw [List.map_cons] at hg
  have e0 : gx_v sp (fun k => if k = h.length then q else ad k) (.ref h.length) = .ref q := by
    show Value.ref (if h.length = h.length then q else ad h.length) = .ref q
    rw [if_pos rfl]
  rw [e0] at hg
  exact hg
/-- what a caller has of method z' begun with the values As: with d frames left -/
def gx_Mt (l : Launch) (z : gx_M) (D : va_G) (dT : Nat → ClassId) (sp : Nat → Nat) (d : Nat) (E : gx_S) (Q : gx_R → Prop) : Prop := match z, E with
  | (cl, tyl, G, Ts, cc, my, nL, ret), (_, lv, _, h, kc, ks) => ∀ (As : List Value), lv = As.map some ++ List.replicate (nL - As.length) none → (∀ v ∈ As, v.category = 1) → As.length ≤ nL → ∀ (ad : Nat → Nat) (sz : Nat),
    vx_Met l my Ts ({ frames := d + 20, cells := kc, slots := ks, locals := 64 * d + 2000 }) (va_Pc (As.map (gx_v sp ad)) (fun U => U.heap.size = sz ∧ va_P D cl (gx_w dT sp ad h) U.heap ∧ va_K D cl (gx_ty dT tyl) U ∧ va_D (fun _ => True) (gx_w dT sp ad h) ∧ G sp (va_A (gx_w dT sp ad h) sz) U U.heap ∧ gx_okH h ∧ ∀ v ∈ As, gx_ok h.length v))
      (gx_Q cl (D, dT, sp, va_A (gx_w dT sp ad h) sz, h.length, ad) Q) (gx_XC cl (D, dT, sp, va_A (gx_w dT sp ad h) sz, h.length, ad) Q) kc ks (va_A (gx_w dT sp ad h) sz)
theorem gx_args : ∀ (vs : List Value) (k i : Nat) (v : Value), (∀ u ∈ vs, u.category = 1) → vs[i]? = some v → (k + i, v) ∈ lv_args k vs
  | [], k, i, v, _, h => by simp at h
  | u :: vs, k, 0, v, hc, h => by
    have e : u = v := by simpa using h
    subst e
    exact List.mem_cons_self
  | u :: vs, k, i + 1, v, hc, h => by
    have h1 : vs[i]? = some v := by simpa using h
    have hu : ¬ u.category = 2 := by rw [hc u List.mem_cons_self]; decide
    show (k + (i + 1), v) ∈ (k, u) :: lv_args (if u.category = 2 then k + 2 else k + 1) vs
    rw [if_neg hu, show k + (i + 1) = (k + 1) + i by omega]
    exact List.mem_cons_of_mem _ (gx_args vs (k + 1) i v (fun w hw => hc w (List.mem_cons_of_mem _ hw)) h1)
theorem gx_sl : ∀ (vs : List Value), (∀ u ∈ vs, u.category = 1) → (lg_sl vs).length = vs.length
  | [], _ => rfl
  | u :: vs, hc => by
    have hu : ¬ u.category = 2 := by rw [hc u List.mem_cons_self]; decide
    show ((if u.category = 2 then [Slot.val u, .second] else [.val u]) ++ lg_sl vs).length = vs.length + 1
    rw [if_neg hu, List.length_append, gx_sl vs (fun w hw => hc w (List.mem_cons_of_mem _ hw))]
    simp; omega
/-- a body that is right is a contract -/
theorem gx_Mt.of {l : Launch} {D : va_G} {dT : Nat → ClassId} {sp : Nat → Nat} {d : Nat} {lv : List (Option Value)} {h : gx_H} {kc ks : Nat} {Q : gx_R → Prop} {Ts' : List Cond} (hy : plainName my.cls = true) (hw : Ts = Cond.code my cc nL ret :: Ts')
    (hF : ∀ (x : gx_C) (y : gx_D), x.2.1 = l → y.1 = D → y.2.1 = dT → y.2.2.1 = sp → gx_Cx (cl, tyl, G, Ts, cc, my, nL, ret) x y → (∀ z ∈ x.2.2.2.2.2.2.2.2.2.exceptionTable.toList, False) → x.2.2.2.1.frames = d + 20 → x.2.2.2.1.locals = 64 * d + 2000 → gx_Gd (cl, tyl, G, Ts, cc, my, nL, ret) x y (gx_Fin (cl, tyl, G, Ts, cc, my, nL, ret) x y Q) (0, lv, [], h, kc, ks)) :
    gx_Mt l (cl, tyl, G, Ts, cc, my, nL, ret) D dT sp d (0, lv, [], h, kc, ks) Q := by
  intro As hAs hcat hlen ad sz
  refine vx_ofW (cc := cc) (maxL := nL) (ret := ret) hy hw ?_
  intro p e s m args below meth c s₁ B hml hex hv
  obtain ⟨rfl, hsz, hP, hK, hD0, hG, hok, hoka⟩ := hv
  have hts := atoms_spec (ws := Ts) B.pre
  subst hsz
  have hcv : ∀ u ∈ As.map (gx_v sp ad), u.category = 1 := fun u hu => by
    obtain ⟨v, hv, rfl⟩ := List.mem_map.mp hu
    rw [gx_v_cat]
    exact hcat v hv
  have hsl : (lg_sl (As.map (gx_v sp ad))).length ≤ nL := by rw [gx_sl _ hcv, List.length_map]; exact hlen
  have hl := lv_entry (As.map (gx_v sp ad)) (n := nL) hsl
  rw [lg_entry_eq]
  have hg := hF (p, l, e, (headSpec Ts { frames := d + 20, cells := kc, slots := ks, locals := 64 * d + 2000 }).room, s, m, (As.map (gx_v sp ad)).toArray, below, meth, c) (D, dT, sp, va_A (gx_w dT sp ad h) s.heap.size, h.length, ad) rfl rfl rfl rfl
    ⟨⟨B.exec, B.bytes, hml, findClass_of_methodNamed B.named, (name_of_methodNamed B.named B.method).1, B.returns⟩, hts, hK, fun q hq => Or.inr hq, B.notSynchronized, hG⟩ hex rfl rfl ad s.heap [] _
    ⟨hP, hD0.self, va_S.rf, hok, Nat.le_refl _, fun _ _ => rfl⟩
    ⟨hl.1, hl.2.1, by rw [hAs]; simp; omega, fun i v hi => by
      rw [hAs] at hi
      have hil : i < As.length := by
        by_cases hil : i < As.length
        · exact hil
        · rw [List.getElem?_append_right (by rw [List.length_map]; omega)] at hi
          have h9 := List.eq_of_mem_replicate (List.mem_of_getElem? hi)
          cases h9
      rw [List.getElem?_append_left (by rw [List.length_map]; exact hil), List.getElem?_map] at hi
      cases ha : As[i]? with
      | none => rw [ha] at hi; cases hi
      | some w =>
        rw [ha] at hi
        have e1 : w = v := by simpa using hi
        subst e1
        have hm : w ∈ As := List.mem_of_getElem? ha
        refine ⟨?_, hoka w hm, hcat w hm⟩
        have h8 := hl.2.2 (0 + i, gx_v sp ad w) (gx_args _ 0 i _ hcv (by rw [List.getElem?_map, ha]; rfl))
        rw [Nat.zero_add] at h8
        exact h8⟩
    (fun v hv => by cases hv) (Nat.le_refl _) (Nat.le_refl _)
  have e1 : (headSpec Ts { frames := d + 20, cells := kc, slots := ks, locals := 64 * d + 2000 }).room.cells - kc = 0 := Nat.sub_self kc
  have e2 : (headSpec Ts { frames := d + 20, cells := kc, slots := ks, locals := 64 * d + 2000 }).room.slots - ks = 0 := Nat.sub_self ks
  rw [e1, e2] at hg
  exact hg
/-- behind a call, by what its callee says -/
theorem gx_after {p : Program} {l : Launch} {e : Env} {R : Room} {s : State} {m : MethodId} {args : Array Value} {below : List Frame} {meth : Method} {c : Code} {D : va_G} {dT : Nat → ClassId} {sp : Nat → Nat} {A : Nat → Prop} {n0 : Nat} {ad0 ad : Nat → Nat}
    {lv : List (Option Value)} {st : List Value} {h : gx_H} {bc bs kc ks len : Nat} {K : gx_S → Prop} {Q : gx_R → Prop} {H : Heap} {locs : List Loc} {ls : Array Slot} {st0 : List Value} {a : Array Value} {Fin : State → Prop}
    (run : ∀ T : State, T.heap = H → Stand p l e R s m args below meth c T locs (R.cells - bc) (R.slots - bs) →
      (∃ (v : Option Value) (st₀ t T' : State) (L : List Loc), st₀.heap = H ∧ Stand p l e R s m args below meth c T' (locs ++ L) (R.cells - bc + kc) (R.slots - bs + ks) ∧ (∀ q ∈ L, va_A (gx_w dT sp ad h) H.size q.base) ∧ T'.heap = t.heap ∧ T'.vm = t.vm ∧ gx_Q cl (D, dT, sp, va_A (gx_w dT sp ad h) H.size, h.length, ad) (gx_k lv st (pc + len) (bc - kc) (bs - ks) K Q) a st₀ (.returned v) t ∧
        Goes p e below T (F0 m pc ls st0) T' { F0 m pc ls st0 with pc := pc + len, stack := v.toList ++ st.map (gx_v sp ad) }) ∨
      (∃ (q : Addr) (st₀ t T' : State) (L : List Loc) (E : String) (ce : Cell), st₀.heap = H ∧ Stand p l e R s m args below meth c T' (locs ++ L) (R.cells - bc + kc) (R.slots - bs + ks) ∧ (∀ z ∈ L, va_A (gx_w dT sp ad h) H.size z.base) ∧ T'.heap = t.heap ∧ T'.vm = t.vm ∧ gx_XC cl (D, dT, sp, va_A (gx_w dT sp ad h) H.size, h.length, ad) (gx_k lv st (pc + len) (bc - kc) (bs - ks) K Q) E st₀ t ∧ t.heap[q]? = some ce ∧ ce.vm = .none ∧ s.vm.findClass E = some ce.cls ∧
        Steps p.tables e below (T.setTop (F0 m pc ls st0)) ((T'.setTop { F0 m pc ls st0 with stack := st.map (gx_v sp ad) }).pushFrame (.throwing q))))
    (hA : ∀ q, s.heap.size ≤ q → A q) (hh : gx_Rh cl (D, dT, sp, A, n0, ad0) s h ad H locs) (hv : gx_Rv sp nL lv h.length ad ls) (hs : gx_Rs st h.length) (hc1 : bc ≤ R.cells) (hc2 : bs ≤ R.slots) (hk1 : kc ≤ bc) (hk2 : ks ≤ bs)
    (hK : ∀ S', K S' → gx_Gd (cl, tyl, G, Ts, cc, my, nL, ret) (p, l, e, R, s, m, args, below, meth, c) (D, dT, sp, A, n0, ad0) Fin S')
    (hX : ∀ (E : String) (h' : gx_H) (ad' : Nat → Nat) (H' : Heap) (locs' : List Loc) (q : Addr) (ce : Cell), Q (.inr E, h') → gx_Rh cl (D, dT, sp, A, n0, ad0) s h' ad' H' locs' → gx_Rv sp nL lv h'.length ad' ls → H'[q]? = some ce → ce.vm = .none → s.vm.findClass E = some ce.cls → vx_W p l e R s m args below meth c H' locs' (R.cells - (bc - kc)) (R.slots - (bs - ks)) Fin (F0 m pc ls (st.map (gx_v sp ad))) q) :
    W p l e R s m args below meth c H locs (R.cells - bc) (R.slots - bs) Fin (F0 m pc ls st0) := by
  obtain ⟨hP, hD, hS, hok, hn0, had⟩ := hh
  have hsub : ∀ q, va_A (gx_w dT sp ad h) H.size q → A q := fun q hq => by
    rcases hq with ⟨k, e9, hk⟩ | hq
    · exact hD.2 k (q, e9) hk
    · exact hA q (Nat.le_trans hS.1 hq)
  have key : ∀ (h' : gx_H) (ad' : Nat → Nat) (st₀ t T' : State) (L : List Loc), st₀.heap = H → T'.heap = t.heap → (∀ q ∈ L, va_A (gx_w dT sp ad h) H.size q.base) → gx_Re cl (D, dT, sp, va_A (gx_w dT sp ad h) H.size, h.length, ad) h' ad' st₀ t →
      gx_Rh cl (D, dT, sp, A, n0, ad0) s h' ad' T'.heap (locs ++ L) ∧ gx_Rv sp nL lv h'.length ad' ls ∧ gx_Rs st h'.length ∧ st.map (gx_v sp ad') = st.map (gx_v sp ad) := by
    intro h' ad' st₀ t T' L h0 e1 hL ⟨⟨hP', hD', hok', hn', had'⟩, hF⟩
    refine ⟨⟨by rw [e1]; exact hP', hD'.weaken (fun k q _ hq => hsub q.1 hq), ⟨?_, ?_, ?_⟩, hok', Nat.le_trans hn0 hn', fun k hk => (had' k (Nat.lt_of_lt_of_le hk hn0)).trans (had k hk)⟩, ⟨hv.1, hv.2.1, hv.2.2.1, fun i v hi => ?_⟩, fun v hm => (hs v hm).le hn', List.map_congr_left (fun v hm => gx_v.ext (hs v hm) had')⟩
    · rw [e1]; exact Nat.le_trans hS.1 (by rw [← h0]; exact hF.1)
    · intro q hq hnA
      rw [e1, hF.2 q (by rw [h0]; exact Nat.lt_of_lt_of_le hq hS.1) (fun z => hnA (hsub q z)), h0]
      exact hS.2.1 q hq hnA
    · intro z hz
      rcases List.mem_append.mp hz with hz | hz
      · exact hS.2.2 z hz
      · exact hsub _ (hL z hz)
    · obtain ⟨g1, g2, g3⟩ := hv.2.2.2 i v hi
      exact ⟨by rw [gx_v.ext g2 had']; exact g1, g2.le hn', g3⟩
  have ec : R.cells - bc + kc = R.cells - (bc - kc) := by omega
  have es : R.slots - bs + ks = R.slots - (bs - ks) := by omega
  intro T hT X
  rcases run T hT X with ⟨v, st₀, t, T', L, h0, X', hL, e1, e2, ⟨v', h', ad', hq, hv', hvok, hre⟩, go⟩ | ⟨q, st₀, t, T', L, E, ce, h0, X', hL, e1, e2, ⟨h', ad', hq, hre⟩, hce, hcv, hcl, go⟩
  · obtain ⟨r1, r2, r3, r4⟩ := key h' ad' st₀ t T' L h0 e1 hL hre
    have ev : v = v'.map (gx_v sp ad') := Outcome.returned.inj hv'
    subst ev
    rw [ec, es] at X'
    cases v' with
    | none =>
      obtain ⟨t2, a1, b1⟩ := hK _ hq ad' T'.heap (locs ++ L) ls r1 r2 r3 (Nat.le_trans (Nat.sub_le _ _) hc1) (Nat.le_trans (Nat.sub_le _ _) hc2) T' rfl X'
      rw [r4] at a1
      exact ⟨t2, go t2 a1, b1⟩
    | some u =>
      obtain ⟨t2, a1, b1⟩ := hK _ hq ad' T'.heap (locs ++ L) ls r1 r2 (fun w hm => by
        rcases List.mem_cons.mp hm with e9 | e9
        · rw [e9]; exact hvok u rfl
        · exact r3 w e9) (Nat.le_trans (Nat.sub_le _ _) hc1) (Nat.le_trans (Nat.sub_le _ _) hc2) T' rfl X'
      rw [List.map_cons, r4] at a1
      exact ⟨t2, go t2 a1, b1⟩
  · obtain ⟨r1, r2, r3, r4⟩ := key h' ad' st₀ t T' L h0 e1 hL hre
    rw [ec, es] at X'
    obtain ⟨t2, a1, b1⟩ := hX E h' ad' T'.heap (locs ++ L) q ce hq r1 r2 (by rw [e1]; exact hce) hcv hcl T' rfl X'
    exact ⟨t2, go.trans a1, b1⟩
end GXC
end
section
/-! A row an instruction: by its decode row. Written by wip/tools/instr.py. -/
section GXI
variable {cl : List vw_C} {tyl : List FieldType} {Ts : List Cond} {G : (Nat → Nat) → (Nat → Prop) → State → Heap → Prop} {cc : ByteArray} {my : MethodName} {nL : Nat} {ret : Option FieldType} {pc : Nat}
theorem gq_iload_n {i : Fin 4} (d : decode cc pc = .ok (.iload_n i, 1)) : gx_s1 (cl, tyl, G, Ts, cc, my, nL, ret) pc (gi_ld gx_isI i.val (pc + 1)) := gs_ild (fun ls rest x hl p l e R s m args below meth c H locs cells slots Fin hx hb k => lv_iload_n hx hb d rfl hl k)
theorem gq_iload {i : Nat} (d : decode cc pc = .ok (.iload i, 2)) : gx_s1 (cl, tyl, G, Ts, cc, my, nL, ret) pc (gi_ld gx_isI i (pc + 2)) := gs_ild (fun ls rest x hl p l e R s m args below meth c H locs cells slots Fin hx hb k => lv_iload hx hb d hl k)
theorem gq_aload_n {i : Fin 4} (d : decode cc pc = .ok (.aload_n i, 1)) : gx_s1 (cl, tyl, G, Ts, cc, my, nL, ret) pc (gi_ld gx_isR i.val (pc + 1)) := gs_rld (fun ls rest x hl p l e R s m args below meth c H locs cells slots Fin hx hb k => by
    cases x with
    | none => exact lv_aload_nN hx hb d rfl hl k
    | some a => exact lv_aload_n hx hb d rfl hl k)
theorem gq_aload {i : Nat} (d : decode cc pc = .ok (.aload i, 2)) : gx_s1 (cl, tyl, G, Ts, cc, my, nL, ret) pc (gi_ld gx_isR i (pc + 2)) := gs_rld (fun ls rest x hl p l e R s m args below meth c H locs cells slots Fin hx hb k => by
    cases x with
    | none => exact lv_aloadN hx hb d hl k
    | some a => exact lv_aload hx hb d hl k)
theorem gq_istore_n {i : Fin 4} (d : decode cc pc = .ok (.istore_n i, 1)) : gx_s1 (cl, tyl, G, Ts, cc, my, nL, ret) pc (gi_st gx_isI i.val (pc + 1)) := gs_ist (fun x p l e R s m args below meth c H locs cells slots Fin ls rest l1 hx hb hl hn k => lv_istore_n hx hb d rfl hl hn rfl k)
theorem gq_istore {i : Nat} (d : decode cc pc = .ok (.istore i, 2)) : gx_s1 (cl, tyl, G, Ts, cc, my, nL, ret) pc (gi_st gx_isI i (pc + 2)) := gs_ist (fun x p l e R s m args below meth c H locs cells slots Fin ls rest l1 hx hb hl hn k => lv_istore hx hb d hl hn rfl k)
theorem gq_astore_n {i : Fin 4} (d : decode cc pc = .ok (.astore_n i, 1)) : gx_s1 (cl, tyl, G, Ts, cc, my, nL, ret) pc (gi_st gx_isR i.val (pc + 1)) := gs_rst (fun x p l e R s m args below meth c H locs cells slots Fin ls rest l1 hx hb hl hn k => by
    cases x with
    | none => exact lv_astore_nN hx hb d rfl hl hn rfl k
    | some a => exact lv_astore_n hx hb d rfl hl hn rfl k)
theorem gq_astore {i : Nat} (d : decode cc pc = .ok (.astore i, 2)) : gx_s1 (cl, tyl, G, Ts, cc, my, nL, ret) pc (gi_st gx_isR i (pc + 2)) := gs_rst (fun x p l e R s m args below meth c H locs cells slots Fin ls rest l1 hx hb hl hn k => by
    cases x with
    | none => exact lv_astoreN hx hb d hl hn rfl k
    | some a => exact lv_astore hx hb d hl hn rfl k)
theorem gq_iconst {n : Int} {v : Int32} (d : decode cc pc = .ok (.iconst n, 1)) (hv : Int32.ofInt n = v) : gx_s1 (cl, tyl, G, Ts, cc, my, nL, ret) pc (gi_k (.int v) (pc + 1)) := gs_k trivial (fun _ _ => rfl) (fun ls rest p l e R s m args below meth c H locs cells slots Fin hx hb k => lv_iconst hx hb d hv k)
theorem gq_bipush {n : Int} {v : Int32} (d : decode cc pc = .ok (.bipush n, 2)) (hv : (Int8.ofInt n).toInt32 = v) : gx_s1 (cl, tyl, G, Ts, cc, my, nL, ret) pc (gi_k (.int v) (pc + 2)) := gs_k trivial (fun _ _ => rfl) (fun ls rest p l e R s m args below meth c H locs cells slots Fin hx hb k => lv_bipush hx hb d hv k)
theorem gq_sipush {n : Int} {v : Int32} (d : decode cc pc = .ok (.sipush n, 3)) (hv : (Int16.ofInt n).toInt32 = v) : gx_s1 (cl, tyl, G, Ts, cc, my, nL, ret) pc (gi_k (.int v) (pc + 3)) := gs_k trivial (fun _ _ => rfl) (fun ls rest p l e R s m args below meth c H locs cells slots Fin hx hb k => lv_sipush hx hb d hv k)
theorem gq_null (d : decode cc pc = .ok (.aconst_null, 1)) : gx_s1 (cl, tyl, G, Ts, cc, my, nL, ret) pc (gi_k .null (pc + 1)) := gs_k trivial (fun _ _ => rfl) (fun ls rest p l e R s m args below meth c H locs cells slots Fin hx hb k => lv_null hx hb d k)
theorem gq_iadd (d : decode cc pc = .ok (.iadd, 1)) : gx_s1 (cl, tyl, G, Ts, cc, my, nL, ret) pc (gi_bin (fun a b => a + b) (pc + 1)) := gs_bin (fun ls rest a b p l e R s m args below meth c H locs cells slots Fin hx hb k => lv_iadd hx hb d k)
theorem gq_isub (d : decode cc pc = .ok (.isub, 1)) : gx_s1 (cl, tyl, G, Ts, cc, my, nL, ret) pc (gi_bin (fun a b => a - b) (pc + 1)) := gs_bin (fun ls rest a b p l e R s m args below meth c H locs cells slots Fin hx hb k => lv_isub hx hb d k)
theorem gq_imul (d : decode cc pc = .ok (.imul, 1)) : gx_s1 (cl, tyl, G, Ts, cc, my, nL, ret) pc (gi_bin (fun a b => a * b) (pc + 1)) := gs_bin (fun ls rest a b p l e R s m args below meth c H locs cells slots Fin hx hb k => lv_imul hx hb d k)
theorem gq_iand (d : decode cc pc = .ok (.iand, 1)) : gx_s1 (cl, tyl, G, Ts, cc, my, nL, ret) pc (gi_bin (fun a b => a &&& b) (pc + 1)) := gs_bin (fun ls rest a b p l e R s m args below meth c H locs cells slots Fin hx hb k => lv_iand hx hb d k)
theorem gq_ior (d : decode cc pc = .ok (.ior, 1)) : gx_s1 (cl, tyl, G, Ts, cc, my, nL, ret) pc (gi_bin (fun a b => a ||| b) (pc + 1)) := gs_bin (fun ls rest a b p l e R s m args below meth c H locs cells slots Fin hx hb k => lv_ior hx hb d k)
theorem gq_ixor (d : decode cc pc = .ok (.ixor, 1)) : gx_s1 (cl, tyl, G, Ts, cc, my, nL, ret) pc (gi_bin (fun a b => a ^^^ b) (pc + 1)) := gs_bin (fun ls rest a b p l e R s m args below meth c H locs cells slots Fin hx hb k => lv_ixor hx hb d k)
theorem gq_ishl (d : decode cc pc = .ok (.ishl, 1)) : gx_s1 (cl, tyl, G, Ts, cc, my, nL, ret) pc (gi_bin (fun a b => a <<< (b &&& 31)) (pc + 1)) := gs_bin (fun ls rest a b p l e R s m args below meth c H locs cells slots Fin hx hb k => lv_ishl hx hb d k)
theorem gq_ishr (d : decode cc pc = .ok (.ishr, 1)) : gx_s1 (cl, tyl, G, Ts, cc, my, nL, ret) pc (gi_bin (fun a b => a >>> (b &&& 31)) (pc + 1)) := gs_bin (fun ls rest a b p l e R s m args below meth c H locs cells slots Fin hx hb k => lv_ishr hx hb d k)
theorem gq_iushr (d : decode cc pc = .ok (.iushr, 1)) : gx_s1 (cl, tyl, G, Ts, cc, my, nL, ret) pc (gi_bin (fun a b => (a.toUInt32 >>> (b.toUInt32 &&& Int32.toUInt32 31)).toInt32) (pc + 1)) := gs_bin (fun ls rest a b p l e R s m args below meth c H locs cells slots Fin hx hb k => lv_iushr hx hb d rfl k)
theorem gq_idiv (d : decode cc pc = .ok (.idiv, 1)) : gx_s1 (cl, tyl, G, Ts, cc, my, nL, ret) pc (gi_div (fun a b => a / b) (pc + 1)) := gs_div (fun ls rest a b h0 p l e R s m args below meth c H locs cells slots Fin hx hb k => lv_idiv hx hb d h0 k)
theorem gq_irem (d : decode cc pc = .ok (.irem, 1)) : gx_s1 (cl, tyl, G, Ts, cc, my, nL, ret) pc (gi_div (fun a b => a - a / b * b) (pc + 1)) := gs_div (fun ls rest a b h0 p l e R s m args below meth c H locs cells slots Fin hx hb k => lv_irem hx hb d h0 k)
theorem gq_i2c (d : decode cc pc = .ok (.i2c, 1)) : gx_s1 (cl, tyl, G, Ts, cc, my, nL, ret) pc (gi_un (fun a => (a.toUInt32 % 65536).toInt32) (pc + 1)) := gs_un (fun ls rest a p l e R s m args below meth c H locs cells slots Fin hx hb k => lv_i2c hx hb d rfl k)
theorem gq_goto {off : Int} {tg : Nat} (d : decode cc pc = .ok (.goto off, 3)) (ht : (pc : Int) + off = (tg : Int)) : gx_s1 (cl, tyl, G, Ts, cc, my, nL, ret) pc (gi_goto tg) := gs_goto (fun ls rest p l e R s m args below meth c H locs cells slots Fin hx hb k => lv_goto hx hb d ht k)
theorem gq_if_eq {off : Int} {tg : Nat} (d : decode cc pc = .ok (.ifCond .eq off, 3)) (ht : (pc : Int) + off = (tg : Int)) : gx_s1 (cl, tyl, G, Ts, cc, my, nL, ret) pc (gi_if (fun x => x = 0) (fun x => ¬ x = 0) tg (pc + 3)) := gs_if (fun p l e R s m args below meth c H locs cells slots Fin ls rest a hx hb kt kf => lv_if_eq hx hb d ht kt kf)
theorem gq_if_ne {off : Int} {tg : Nat} (d : decode cc pc = .ok (.ifCond .ne off, 3)) (ht : (pc : Int) + off = (tg : Int)) : gx_s1 (cl, tyl, G, Ts, cc, my, nL, ret) pc (gi_if (fun x => ¬ x = 0) (fun x => x = 0) tg (pc + 3)) := gs_if (fun p l e R s m args below meth c H locs cells slots Fin ls rest a hx hb kt kf => lv_if_ne hx hb d ht kt kf)
theorem gq_if_lt {off : Int} {tg : Nat} (d : decode cc pc = .ok (.ifCond .lt off, 3)) (ht : (pc : Int) + off = (tg : Int)) : gx_s1 (cl, tyl, G, Ts, cc, my, nL, ret) pc (gi_if (fun x => x < 0) (fun x => ¬ x < 0) tg (pc + 3)) := gs_if (fun p l e R s m args below meth c H locs cells slots Fin ls rest a hx hb kt kf => lv_if_lt hx hb d ht kt kf)
theorem gq_if_ge {off : Int} {tg : Nat} (d : decode cc pc = .ok (.ifCond .ge off, 3)) (ht : (pc : Int) + off = (tg : Int)) : gx_s1 (cl, tyl, G, Ts, cc, my, nL, ret) pc (gi_if (fun x => ¬ x < 0) (fun x => x < 0) tg (pc + 3)) := gs_if (fun p l e R s m args below meth c H locs cells slots Fin ls rest a hx hb kt kf => lv_if_ge hx hb d ht (fun h => kt (Int32.not_lt.mpr h)) (fun h => kf (Int32.not_le.mp h)))
theorem gq_if_gt {off : Int} {tg : Nat} (d : decode cc pc = .ok (.ifCond .gt off, 3)) (ht : (pc : Int) + off = (tg : Int)) : gx_s1 (cl, tyl, G, Ts, cc, my, nL, ret) pc (gi_if (fun x => 0 < x) (fun x => ¬ 0 < x) tg (pc + 3)) := gs_if (fun p l e R s m args below meth c H locs cells slots Fin ls rest a hx hb kt kf => lv_if_gt hx hb d ht kt kf)
theorem gq_if_le {off : Int} {tg : Nat} (d : decode cc pc = .ok (.ifCond .le off, 3)) (ht : (pc : Int) + off = (tg : Int)) : gx_s1 (cl, tyl, G, Ts, cc, my, nL, ret) pc (gi_if (fun x => ¬ 0 < x) (fun x => 0 < x) tg (pc + 3)) := gs_if (fun p l e R s m args below meth c H locs cells slots Fin ls rest a hx hb kt kf => lv_if_le hx hb d ht (fun h => kt (Int32.not_lt.mpr h)) (fun h => kf (Int32.not_le.mp h)))
theorem gq_icmp_eq {off : Int} {tg : Nat} (d : decode cc pc = .ok (.if_icmp .eq off, 3)) (ht : (pc : Int) + off = (tg : Int)) : gx_s1 (cl, tyl, G, Ts, cc, my, nL, ret) pc (gi_cmp (fun x y => x = y) (fun x y => ¬ x = y) tg (pc + 3)) := gs_cmp (fun p l e R s m args below meth c H locs cells slots Fin ls rest a b hx hb kt kf => lv_icmp_eq hx hb d ht kt kf)
theorem gq_icmp_ne {off : Int} {tg : Nat} (d : decode cc pc = .ok (.if_icmp .ne off, 3)) (ht : (pc : Int) + off = (tg : Int)) : gx_s1 (cl, tyl, G, Ts, cc, my, nL, ret) pc (gi_cmp (fun x y => ¬ x = y) (fun x y => x = y) tg (pc + 3)) := gs_cmp (fun p l e R s m args below meth c H locs cells slots Fin ls rest a b hx hb kt kf => lv_icmp_ne hx hb d ht kt kf)
theorem gq_icmp_lt {off : Int} {tg : Nat} (d : decode cc pc = .ok (.if_icmp .lt off, 3)) (ht : (pc : Int) + off = (tg : Int)) : gx_s1 (cl, tyl, G, Ts, cc, my, nL, ret) pc (gi_cmp (fun x y => x < y) (fun x y => ¬ x < y) tg (pc + 3)) := gs_cmp (fun p l e R s m args below meth c H locs cells slots Fin ls rest a b hx hb kt kf => lv_icmp_lt hx hb d ht kt kf)
theorem gq_icmp_ge {off : Int} {tg : Nat} (d : decode cc pc = .ok (.if_icmp .ge off, 3)) (ht : (pc : Int) + off = (tg : Int)) : gx_s1 (cl, tyl, G, Ts, cc, my, nL, ret) pc (gi_cmp (fun x y => ¬ x < y) (fun x y => x < y) tg (pc + 3)) := gs_cmp (fun p l e R s m args below meth c H locs cells slots Fin ls rest a b hx hb kt kf => lv_icmp_ge hx hb d ht (fun h => kt (Int32.not_lt.mpr h)) (fun h => kf (Int32.not_le.mp h)))
theorem gq_icmp_gt {off : Int} {tg : Nat} (d : decode cc pc = .ok (.if_icmp .gt off, 3)) (ht : (pc : Int) + off = (tg : Int)) : gx_s1 (cl, tyl, G, Ts, cc, my, nL, ret) pc (gi_cmp (fun x y => y < x) (fun x y => ¬ y < x) tg (pc + 3)) := gs_cmp (fun p l e R s m args below meth c H locs cells slots Fin ls rest a b hx hb kt kf => lv_icmp_gt hx hb d ht kt kf)
theorem gq_icmp_le {off : Int} {tg : Nat} (d : decode cc pc = .ok (.if_icmp .le off, 3)) (ht : (pc : Int) + off = (tg : Int)) : gx_s1 (cl, tyl, G, Ts, cc, my, nL, ret) pc (gi_cmp (fun x y => ¬ y < x) (fun x y => y < x) tg (pc + 3)) := gs_cmp (fun p l e R s m args below meth c H locs cells slots Fin ls rest a b hx hb kt kf => lv_icmp_le hx hb d ht (fun h => kt (Int32.not_lt.mpr h)) (fun h => kf (Int32.not_le.mp h)))
end GXI
end
section
/-! The abstract machine is right: what it says of a method is a contract. -/
section GXZ
variable {cl : List vw_C} {tyl : List FieldType} {Ts : List Cond} {G : (Nat → Nat) → (Nat → Prop) → State → Heap → Prop} {cc : ByteArray} {my : MethodName} {nL : Nat} {ret : Option FieldType} {pc nx : Nat} {l : Launch} {zs : Nat → gx_M}
/-- all that a table's row owes -/
def gx_Sn (l : Launch) (zs : Nat → gx_M) (z : gx_M) (pc : Nat) (T : gx_T) : Prop := ∀ (x : gx_C) (y : gx_D) (d : Nat) (lv : List (Option Value)) (st : List Value) (h : gx_H) (bc bs : Nat) (K : gx_S → Prop) (Q : gx_R → Prop) (C : Nat → gx_S → (gx_R → Prop) → Prop),
  x.2.1 = l → gx_Cx z x y → (∀ w ∈ x.2.2.2.2.2.2.2.2.2.exceptionTable.toList, False) → x.2.2.2.1.frames = d + 20 → x.2.2.2.1.locals = 64 * d + 2000 → T (pc, lv, st, h, bc, bs) K Q C → (∀ S', K S' → gx_Gd z x y (gx_Fin z x y Q) S') →
  (∀ m' lv' h' kc ks Q', C m' (0, lv', [], h', kc, ks) Q' → ∃ d', d = d' + 1 ∧ gx_Mt l (zs m') y.1 y.2.1 y.2.2.1 d' (0, lv', [], h', kc, ks) Q') → gx_Gd z x y (gx_Fin z x y Q) (pc, lv, st, h, bc, bs)
theorem gx_s1.sn {z : gx_M} {T : gx_T} (h : gx_s1 z pc T) : gx_Sn l zs z pc T := fun x y _ lv st h' bc bs K Q C _ hC _ _ _ hT hK _ => h x y _ lv st h' bc bs K Q C hC hT hK
theorem gx_sR.sn {z : gx_M} {T : gx_T} (h : gx_sR z pc T) : gx_Sn l zs z pc T := fun x y _ lv st h' bc bs K Q C _ hC _ _ _ hT _ _ => h x y lv st h' bc bs K Q C hC hT
theorem gx_Fin.mono {z : gx_M} {x : gx_C} {y : gx_D} {Q Q' : gx_R → Prop} (hq : ∀ r, Q r → Q' r) (t : State) (h : gx_Fin z x y Q t) : gx_Fin z x y Q' t := by
  obtain ⟨cl, tyl, G, Ts, cc, my, nL, ret⟩ := z
  obtain ⟨p, l, e, R, s, m, args, below, meth, c⟩ := x
  obtain ⟨D, dT, sp, A, n0, ad0⟩ := y
  obtain ⟨o, h1, h2, h3⟩ := h
  refine ⟨o, h1, h2, ?_⟩
  rcases h3 with ⟨⟨v, h', ad, hQ, h4⟩, h5⟩ | ⟨q, h4, E, ce, L, ⟨h', ad, hQ, h5⟩, h6⟩
  · exact Or.inl ⟨⟨v, h', ad, hq _ hQ, h4⟩, h5⟩
  · exact Or.inr ⟨q, h4, E, ce, L, ⟨h', ad, hq _ hQ, h5⟩, h6⟩
theorem gx_Gd.mono {z : gx_M} {x : gx_C} {y : gx_D} {F F' : State → Prop} {S : gx_S} (hq : ∀ t, F t → F' t) (h : gx_Gd z x y F S) : gx_Gd z x y F' S := by
  obtain ⟨cl, tyl, G, Ts, cc, my, nL, ret⟩ := z
  obtain ⟨p, l, e, R, s, m, args, below, meth, c⟩ := x
  obtain ⟨D, dT, sp, A, n0, ad0⟩ := y
  obtain ⟨pc, lv, st, h', bc, bs⟩ := S
  intro ad H locs ls h1 h2 h3 h4 h5 T hT X
  obtain ⟨t, a, b⟩ := h ad H locs ls h1 h2 h3 h4 h5 T hT X
  exact ⟨t, a, hq t b⟩
/-- a method's data: its words begin with its code -/
def gx_Zok (z : gx_M) : Prop := ∃ (cl : List vw_C) (tyl : List FieldType) (G : (Nat → Nat) → (Nat → Prop) → State → Heap → Prop) (Ts' : List Cond) (cc : ByteArray) (my : MethodName) (nL : Nat) (ret : Option FieldType), z = (cl, tyl, G, Cond.code my cc nL ret :: Ts', cc, my, nL, ret) ∧ plainName my.cls = true
theorem gx_sound {P : gx_P} (hok : ∀ m pc T, P m pc = some T → gx_Sn l zs (zs m) pc T) (hz : ∀ m, gx_Zok (zs m)) {d m : Nat} {lv : List (Option Value)} {h : gx_H} {kc ks : Nat} {Q : gx_R → Prop} (hX : gx_X P d m (0, lv, [], h, kc, ks) Q) (D : va_G) (dT : Nat → ClassId) (sp : Nat → Nat) :
    gx_Mt l (zs m) D dT sp d (0, lv, [], h, kc, ks) Q := by
  have mt : ∀ {d m : Nat} {lv : List (Option Value)} {h : gx_H} {kc ks : Nat} {Q : gx_R → Prop} (D : va_G) (dT : Nat → ClassId) (sp : Nat → Nat),
      (∀ (x : gx_C) (y : gx_D), x.2.1 = l → gx_Cx (zs m) x y → (∀ w ∈ x.2.2.2.2.2.2.2.2.2.exceptionTable.toList, False) → x.2.2.2.1.frames = d + 20 → x.2.2.2.1.locals = 64 * d + 2000 → gx_Gd (zs m) x y (gx_Fin (zs m) x y Q) (0, lv, [], h, kc, ks)) → gx_Mt l (zs m) D dT sp d (0, lv, [], h, kc, ks) Q := by
    intro d m lv h kc ks Q D dT sp hF
    obtain ⟨cl, tyl, G, Ts', cc, my, nL, ret, ez, hy⟩ := hz m
    rw [ez] at hF ⊢
    exact gx_Mt.of hy rfl (fun x y e1 _ _ _ hC hex hf hl => hF x y e1 hC hex hf hl)
  refine mt D dT sp (hX (fun d m S Q => ∀ (x : gx_C) (y : gx_D), x.2.1 = l → gx_Cx (zs m) x y → (∀ w ∈ x.2.2.2.2.2.2.2.2.2.exceptionTable.toList, False) → x.2.2.2.1.frames = d + 20 → x.2.2.2.1.locals = 64 * d + 2000 → gx_Gd (zs m) x y (gx_Fin (zs m) x y Q) S) ?_ ?_)
  · intro d m S Q Q' hq hF x y e1 hC hex hf hl
    exact (hF x y e1 hC hex hf hl).mono (gx_Fin.mono hq)
  · intro d m S Q T K C hT hS hK hC x y e1 hCx hex hf hl
    obtain ⟨pc, lv, st, h, bc, bs⟩ := S
    refine hok m pc T hT x y d lv st h bc bs K Q C e1 hCx hex hf hl hS (fun S' k => hK S' k x y e1 hCx hex hf hl) (fun m' lv' h' kc ks Q' c => ?_)
    obtain ⟨d', e2, f⟩ := hC m' _ Q' c
    exact ⟨d', e2, mt y.1 y.2.1 y.2.2.1 f⟩
/-- a table all of whose rows are right -/
def gx_all (F : Nat → gx_T → Prop) : List (Nat × gx_T) → Prop
  | [] => True
  | q :: r => F q.1 q.2 ∧ gx_all F r
theorem gx_all.mem {F : Nat → gx_T → Prop} : ∀ {tb : List (Nat × gx_T)}, gx_all F tb → ∀ q ∈ tb, F q.1 q.2
  | [], _, q, hq => by cases hq
  | x :: r, h, q, hq => by
    rcases List.mem_cons.mp hq with e | e
    · rw [e]; exact h.1
    · exact gx_all.mem h.2 q e
theorem gx_all.find {F : Nat → gx_T → Prop} {tb : List (Nat × gx_T)} (h : gx_all F tb) {pc : Nat} {T : gx_T} (hf : gx_find pc tb = some T) : F pc T := h.mem (pc, T) (gx_find_mem hf)
/-- the stack at a call -/
theorem gx_stack {sp ad : Nat → Nat} {st : List Value} {n : Nat} : st.map (gx_v sp ad) = ((st.take n).reverse.map (gx_v sp ad)).reverse ++ (st.drop n).map (gx_v sp ad) := by
  rw [← List.map_reverse, List.reverse_reverse, ← List.map_append, List.take_append_drop]
theorem gx_call_inv {m' n nL' bc bs : Nat} {st : List Value} {h : gx_H} {F : Nat → Nat → gx_R → Prop} {C : Nat → gx_S → (gx_R → Prop) → Prop} (hT : gi_callK m' n nL' st h bc bs F C) :
    (((st.drop n).map Value.category).sum ≤ 8 ∧ (∀ v ∈ (st.take n).reverse, v.category = 1) ∧ (st.take n).reverse.length = n) ∧ ∃ kc ks, (kc ≤ bc ∧ ks ≤ bs) ∧ C m' (0, ((st.take n).reverse.map some) ++ List.replicate (nL' - n) none, [], h, kc, ks) (F kc ks) := by
  unfold gi_callK at hT
  cases h1 : Nat.ble ((st.drop n).map Value.category).sum 8 with
  | false => rw [h1] at hT; exact False.elim hT
  | true =>
    cases h2 : (st.take n).all (fun v => Nat.beq v.category 1) with
    | false => rw [h1, h2] at hT; exact False.elim hT
    | true =>
      cases h3 : Nat.beq (st.take n).length n with
      | false => rw [h1, h2, h3] at hT; exact False.elim hT
      | true =>
        rw [h1, h2, h3] at hT
        refine ⟨⟨Nat.le_of_ble_eq_true h1, fun v hv => Nat.eq_of_beq_eq_true (List.all_eq_true.mp h2 v (List.mem_reverse.mp hv)), ?_⟩, hT⟩
        rw [List.length_reverse]
        exact Nat.eq_of_beq_eq_true h3
theorem gx_catsum {sp ad : Nat → Nat} (st : List Value) : ((st.map (gx_v sp ad)).map fun v => v.category).sum = (st.map Value.category).sum := by
  rw [List.map_map]
  congr 1
  exact List.map_congr_left (fun v _ => gx_v_cat sp ad v)
/-- what an old cell's word must keep -/
def gx_Gok (G : (Nat → Nat) → (Nat → Prop) → State → Heap → Prop) : Prop := (∀ (sp : Nat → Nat) (A : Nat → Prop) (u U : State) (H : Heap), u.WarmedH U.vm → G sp A u H → G sp A U H) ∧ (∀ (sp : Nat → Nat) (A : Nat → Prop) (U : State) (H H1 : Heap), (∀ a : Nat, a < H.size → ¬ A a → H1[a]? = H[a]?) → H.size ≤ H1.size → G sp A U H → G sp A U H1) ∧ (∀ (sp : Nat → Nat) (A B : Nat → Prop) (U : State) (H : Heap), (∀ q, B q → A q) → G sp A U H → G sp B U H)
theorem gx_G_in {D : va_G} {dT : Nat → ClassId} {sp ad ad0 : Nat → Nat} {A : Nat → Prop} {n0 : Nat} {s : State} {h : gx_H} {H : Heap} {locs : List Loc} (hGo : gx_Gok G) (hA : ∀ q, s.heap.size ≤ q → A q) (hh : gx_Rh cl (D, dT, sp, A, n0, ad0) s h ad H locs) (hG : G sp A s s.heap) {U : State} (hU : U.heap = H) (hvm : s.WarmedH U.vm) :
    G sp (va_A (gx_w dT sp ad h) H.size) U U.heap := by
  obtain ⟨hP, hD, hS, -⟩ := hh
  refine hGo.2.2 sp A _ _ _ (fun q hq => ?_) (hGo.1 sp A s U _ hvm ?_)
  · rcases hq with ⟨k, e9, hk⟩ | hq
    · exact hD.2 k (q, e9) hk
    · exact hA q (Nat.le_trans hS.1 hq)
  · rw [hU]
    exact hGo.2.1 sp A s _ _ hS.2.1 hS.1 hG
end GXZ
end
section
/-! Calls are right. Written by wip/tools/callrows.py. -/
section GXV
variable {cl : List vw_C} {tyl : List FieldType} {Ts : List Cond} {G : (Nat → Nat) → (Nat → Prop) → State → Heap → Prop} {cc : ByteArray} {my : MethodName} {nL : Nat} {ret : Option FieldType} {pc : Nat} {l : Launch} {zs : Nat → gx_M}
variable {idx m' k nL' : Nat} {Ts' Ts'' : List Cond} {cc' : ByteArray} {my' : MethodName} {ret' : Option FieldType}
theorem gx_recv {st : List Value} {a : Nat} (hlen : (st.take (k + 1)).reverse.length = k + 1) (ha : st[k]? = some (.ref a)) : ∃ As, (st.take (k + 1)).reverse = .ref a :: As ∧ As.length = k := by
  have hl : (st.take (k + 1)).length = k + 1 := by rw [← List.length_reverse]; exact hlen
  cases hr : (st.take (k + 1)).reverse with
  | nil => rw [hr] at hlen; cases hlen
  | cons v As =>
    have h0 : (st.take (k + 1)).reverse[0]? = some (.ref a) := by
      rw [List.getElem?_reverse (by omega), hl, show k + 1 - 1 - 0 = k by omega, List.getElem?_take, if_pos (by omega)]
      exact ha
    rw [hr] at h0 hlen
    have e : v = .ref a := by simpa using h0
    subst e
    exact ⟨As, rfl, by simpa using hlen⟩
theorem gx_plain {y : MethodName} {ws : List Cond} {rm : Room} {Pc : Array Value → State → Prop} {Qc : Array Value → State → Outcome → State → Prop} {XC : String → State → State → Prop} {mc ms : Nat} {free : Addr → Prop} (h : vx_Met l y ws rm Pc Qc XC mc ms free) (hx : ∀ E st t, XC E st t → False) : Met l y ws rm Pc Qc mc ms free := by
  intro p e ha hc hk s m args below hf happ hP hK
  obtain ⟨n, o, h1, h2, h3, h4⟩ := h p e ha hc hk s m args below hf happ hP hK
  refine ⟨n, o, h1, h2, h3, ?_⟩
  rcases h4 with h4 | ⟨q, -, E, ce, L, hX, -⟩
  · exact h4
  · exact (hx _ _ _ hX).elim
theorem gx_Q.mono {y : gx_D} {Q Q' : gx_R → Prop} {a : Array Value} {st t : State} {o : Outcome} (hq : ∀ r, Q r → Q' r) (h : gx_Q cl y Q a st o t) : gx_Q cl y Q' a st o t := by
  obtain ⟨v, h', ad, h1, h2⟩ := h
  exact ⟨v, h', ad, hq _ h1, h2⟩
theorem gx_k0.to {lv : List (Option Value)} {st : List Value} {nx bc bs : Nat} {K : gx_S → Prop} {Q : gx_R → Prop} (r : gx_R) (h : gx_k0 lv st nx bc bs K r) : gx_k lv st nx bc bs K Q r := by
  obtain ⟨v, hp⟩ := r
  rcases v with v | v
  · cases v with
    | none => exact h
    | some u => exact False.elim h
  · exact False.elim h
theorem gs_callV {ci N : Nat} {Cn : String} {T : u_T} (ez : zs m' = (cl, tyl, G, Ts', cc', my', nL', ret')) (hGo : gx_Gok G) (hG : GoodIn Ts Ts') (hw : Ts' = Cond.code my' cc' nL' ret' :: Ts'') (hc : cl[ci]? = some (Cn, T, N)) (hini : Cond.initialized my'.cls ∈ Ts) (hlink : Cond.methodLink my.cls idx my' ∈ Ts) (hinst : Cond.instanceMethod my' ∈ Ts) (hsel : Cond.selects Cn my' my' ∈ Ts)
    (hd9 : my'.cls ≠ "java/lang/invoke/MethodHandle" ∧ my'.cls ≠ "java/lang/invoke/VarHandle" ∧ (parseMethodDescriptor my'.desc).map (fun d => d.parameters.length) = some k) (hmax : nL' ≤ 45 ∧ k + 1 ≤ nL') (hd : decode cc pc = .ok (.invokevirtual idx, 3)) : gx_Sn l zs (cl, tyl, G, Ts, cc, my, nL, ret) pc (gi_vcall (gx_sel ci m' nL') k (pc + 3)) := by
  rintro ⟨p, l', e, R, s, m, args, below, meth, c⟩ ⟨D, dT, sp, A, n0, ad0⟩ d lv st h bc bs K Q C e1 ⟨⟨hx, hb, hml, hown, hnm0, hret⟩, hts, hK0, hA, hlk, hG0⟩ hex hf hlo hT hK hC ad H locs ls hh hv hs hc1 hc2
  have e1 : l' = l := e1
  subst e1
  have hf : R.frames = d + 20 := hf
  have hlo : R.locals = 64 * d + 2000 := hlo
  cases ha : st[k]? with
  | none => simp only [gi_vcall, ha] at hT
  | some v0 =>
    cases v0 with
    | ref a =>
      cases hcell : h[a]? with
      | none => simp only [gi_vcall, ha, hcell] at hT
      | some ce =>
        obtain ⟨t0, x0⟩ | ⟨c0, fs⟩ := ce
        · simp only [gi_vcall, ha, hcell] at hT
        · cases hb1 : Nat.beq c0 ci with
          | false => simp only [gi_vcall, ha, hcell, gx_sel, hb1] at hT
          | true =>
            simp only [gi_vcall, ha, hcell, gx_sel, hb1] at hT
            have e0 : c0 = ci := Nat.eq_of_beq_eq_true hb1
            subst e0
            obtain ⟨⟨hsum, hcat, hlen⟩, kc, ks, ⟨hk1, hk2⟩, hcall⟩ := gx_call_inv hT
            obtain ⟨d', e2, hM⟩ := hC m' _ _ _ _ _ hcall
            rw [ez] at hM
            obtain ⟨As, eAs, hAl⟩ := gx_recv hlen ha
            rw [eAs] at hcat hM
            have hoka : ∀ v ∈ Value.ref a :: As, gx_ok h.length v := fun v hm => hs v (List.mem_of_mem_take (List.mem_reverse.mp (by rw [eAs]; exact hm)))
            have hMet := hM (.ref a :: As) (by rw [List.length_cons, hAl]) hcat (by rw [List.length_cons, hAl]; exact hmax.2) ad H.size
            have hst := gx_stack (sp := sp) (ad := ad) (st := st) (n := k + 1)
            rw [eAs] at hst
            refine gx_after (ret := ret) (len := 3) (vx_runV (As := As.map (gx_v sp ad)) (rest := (st.drop (k + 1)).map (gx_v sp ad)) ⟨hx, hb, hml, hown, hts⟩ hMet ⟨callB_of k hts hG hw rfl rfl (hts _ hini) (hts _ hlink) hd9 ⟨by show d' + 20 + 1 ≤ R.frames; omega, by show 8 + (nL' + 11) + (64 * d' + 2000) ≤ R.locals; omega⟩, hts _ hinst, hts _ hsel⟩ ⟨fun a9 U g mk q => by
        obtain ⟨q0, q1, qP, qK, qD, qG, qo⟩ := q
        exact ⟨q0, q1, qP, va_K.moved (u := U) (U := U.calling g mk a9) (Vm.Alike.refl U.vm) qK, qD, hGo.1 _ _ U (U.calling g mk a9) _ (State.WarmedH.refl U) qG, qo⟩, va_recv hK0 hh.1 hc (gx_w_at hcell), fun U hU hW => ⟨rfl, by rw [hU], by rw [hU]; exact hh.1, va_K.moved hW.alike hK0, hh.2.1.weaken (fun _ _ _ _ => trivial), gx_G_in hGo hA hh hG0 hU hW, hh.2.2.2.1, hoka⟩⟩
              rfl (by rw [List.length_map]; exact hAl) hv.1 (by rw [hst]; simp [gx_v]) (by rw [gx_catsum]; show 2 * 0 + _ ≤ 8; omega) hd ⟨by omega, by omega⟩) hA hh hv (fun v hm => hs v (List.mem_of_mem_drop hm)) hc1 hc2 hk1 hk2 hK (fun E h' ad' H' locs' q ce hQ r1 r2 g1 g2 g3 => by
      obtain ⟨hP', hD', hS', hok', hn', had'⟩ := r1
      exact vx_out (fun x hx9 => (hex x hx9).elim) hlk g1 g2 g3 (fun t ht _ => ⟨h', ad', hQ, ⟨by rw [ht]; exact hP', hD', hok', hn', had'⟩, hS'.F ht⟩) hS'.2.2 (Nat.sub_le _ _) (Nat.sub_le _ _))
    | _ => simp only [gi_vcall, ha] at hT
theorem gs_callS (ez : zs m' = (cl, tyl, G, Ts', cc', my', nL', ret')) (hGo : gx_Gok G) (hG : GoodIn Ts Ts') (hw : Ts' = Cond.code my' cc' nL' ret' :: Ts'') (hini : Cond.initialized my'.cls ∈ Ts) (hlink : Cond.methodLink my.cls idx my' ∈ Ts) (hstat : Cond.static my' ∈ Ts)
    (hd9 : my'.cls ≠ "java/lang/invoke/MethodHandle" ∧ my'.cls ≠ "java/lang/invoke/VarHandle" ∧ (parseMethodDescriptor my'.desc).map (fun d => d.parameters.length) = some k) (hmax : nL' ≤ 45 ∧ k ≤ nL') (hd : decode cc pc = .ok (.invokestatic idx, 3)) : gx_Sn l zs (cl, tyl, G, Ts, cc, my, nL, ret) pc (gi_call m' k nL' (pc + 3)) := by
  rintro ⟨p, l', e, R, s, m, args, below, meth, c⟩ ⟨D, dT, sp, A, n0, ad0⟩ d lv st h bc bs K Q C e1 ⟨⟨hx, hb, hml, hown, hnm0, hret⟩, hts, hK0, hA, hlk, hG0⟩ hex hf hlo hT hK hC ad H locs ls hh hv hs hc1 hc2
  have e1 : l' = l := e1
  subst e1
  have hf : R.frames = d + 20 := hf
  have hlo : R.locals = 64 * d + 2000 := hlo
  obtain ⟨⟨hsum, hcat, hlen⟩, kc, ks, ⟨hk1, hk2⟩, hcall⟩ := gx_call_inv hT
  obtain ⟨d', e2, hM⟩ := hC m' _ _ _ _ _ hcall
  rw [ez] at hM
  have hoka : ∀ v ∈ (st.take k).reverse, gx_ok h.length v := fun v hm => hs v (List.mem_of_mem_take (List.mem_reverse.mp hm))
  have hMet := hM (st.take k).reverse (by rw [hlen]) hcat (by rw [hlen]; exact hmax.2) ad H.size
  refine gx_after (ret := ret) (len := 3) (vx_runS (As := (st.take k).reverse.map (gx_v sp ad)) (rest := (st.drop k).map (gx_v sp ad)) ⟨hx, hb, hml, hown, hts⟩ hMet ⟨callB_of k hts hG hw rfl rfl (hts _ hini) (hts _ hlink) hd9 ⟨by show d' + 20 + 1 ≤ R.frames; omega, by show 8 + (nL' + 11) + (64 * d' + 2000) ≤ R.locals; omega⟩, hts _ hstat⟩ ⟨fun a9 U g mk q => by
        obtain ⟨q0, q1, qP, qK, qD, qG, qo⟩ := q
        exact ⟨q0, q1, qP, va_K.moved (u := U) (U := U.calling g mk a9) (Vm.Alike.refl U.vm) qK, qD, hGo.1 _ _ U (U.calling g mk a9) _ (State.WarmedH.refl U) qG, qo⟩, fun U hU hW => ⟨rfl, by rw [hU], by rw [hU]; exact hh.1, va_K.moved hW.alike hK0, hh.2.1.weaken (fun _ _ _ _ => trivial), gx_G_in hGo hA hh hG0 hU hW, hh.2.2.2.1, hoka⟩⟩
    rfl (by rw [List.length_map]; exact hlen) hv.1 gx_stack (by rw [gx_catsum]; show 2 * 0 + _ ≤ 8; omega) hd ⟨by omega, by omega⟩) hA hh hv (fun v hm => hs v (List.mem_of_mem_drop hm)) hc1 hc2 hk1 hk2 hK (fun E h' ad' H' locs' q ce hQ r1 r2 g1 g2 g3 => by
      obtain ⟨hP', hD', hS', hok', hn', had'⟩ := r1
      exact vx_out (fun x hx9 => (hex x hx9).elim) hlk g1 g2 g3 (fun t ht _ => ⟨h', ad', hQ, ⟨by rw [ht]; exact hP', hD', hok', hn', had'⟩, hS'.F ht⟩) hS'.2.2 (Nat.sub_le _ _) (Nat.sub_le _ _))
theorem gs_callI (ez : zs m' = (cl, tyl, G, Ts', cc', my', nL', none)) (hGo : gx_Gok G) (hG : GoodIn Ts Ts') (hw : Ts' = Cond.code my' cc' nL' none :: Ts'') (hini : Cond.initialized my'.cls ∈ Ts) (hlink : Cond.methodLink my.cls idx my' ∈ Ts) (hinst : Cond.instanceMethod my' ∈ Ts) (hnm : my'.name = "<init>")
    (hd9 : my'.cls ≠ "java/lang/invoke/MethodHandle" ∧ my'.cls ≠ "java/lang/invoke/VarHandle" ∧ (parseMethodDescriptor my'.desc).map (fun d => d.parameters.length) = some k) (hmax : nL' ≤ 45 ∧ k + 1 ≤ nL') (hd : decode cc pc = .ok (.invokespecial idx, 3)) : gx_Sn l zs (cl, tyl, G, Ts, cc, my, nL, ret) pc (gi_scall m' k nL' (pc + 3)) := by
  rintro ⟨p, l', e, R, s, m, args, below, meth, c⟩ ⟨D, dT, sp, A, n0, ad0⟩ d lv st h bc bs K Q C e1 ⟨⟨hx, hb, hml, hown, hnm0, hret⟩, hts, hK0, hA, hlk, hG0⟩ hex hf hlo hT hK hC ad H locs ls hh hv hs hc1 hc2
  have e1 : l' = l := e1
  subst e1
  have hf : R.frames = d + 20 := hf
  have hlo : R.locals = 64 * d + 2000 := hlo
  cases ha : st[k]? with
  | none => simp only [gi_scall, ha] at hT
  | some v0 =>
    cases v0 with
    | ref a =>
      simp only [gi_scall, ha] at hT
      obtain ⟨⟨hsum, hcat, hlen⟩, kc, ks, ⟨hk1, hk2⟩, hcall⟩ := gx_call_inv hT
      obtain ⟨d', e2, hM⟩ := hC m' _ _ _ _ _ hcall
      rw [ez] at hM
      obtain ⟨As, eAs, hAl⟩ := gx_recv hlen ha
      rw [eAs] at hcat hM
      have hoka : ∀ v ∈ Value.ref a :: As, gx_ok h.length v := fun v hm => hs v (List.mem_of_mem_take (List.mem_reverse.mp (by rw [eAs]; exact hm)))
      have hMet := hM (.ref a :: As) (by rw [List.length_cons, hAl]) hcat (by rw [List.length_cons, hAl]; exact hmax.2) ad H.size
      have hst := gx_stack (sp := sp) (ad := ad) (st := st) (n := k + 1)
      rw [eAs] at hst
      have hMet := gx_plain hMet (fun E st t hX => by obtain ⟨h9, ad9, hX, -⟩ := hX; exact hX)
      have hr : va_Run p l' e R s m args below meth c H locs (R.cells - bc) (R.slots - bs) kc ks (F0 m pc ls (st.map (gx_v sp ad))) ((st.drop (k + 1)).map (gx_v sp ad)) (gx_Q cl (D, dT, sp, va_A (gx_w dT sp ad h) H.size, h.length, ad) (gx_k0 lv (st.drop (k + 1)) (pc + 3) (bc - kc) (bs - ks) K) (Value.ref (ad a) :: As.map (gx_v sp ad)).toArray) (va_A (gx_w dT sp ad h) H.size) :=
        va_runI ⟨hx, hb, hml, hown, hts⟩ hMet ⟨callB_of k hts hG hw rfl rfl (hts _ hini) (hts _ hlink) hd9 ⟨by show d' + 20 + 1 ≤ R.frames; omega, by show 8 + (nL' + 11) + (64 * d' + 2000) ≤ R.locals; omega⟩, hnm, hts _ hinst⟩ ⟨fun a9 U g mk q => by
        obtain ⟨q0, q1, qP, qK, qD, qG, qo⟩ := q
        exact ⟨q0, q1, qP, va_K.moved (u := U) (U := U.calling g mk a9) (Vm.Alike.refl U.vm) qK, qD, hGo.1 _ _ U (U.calling g mk a9) _ (State.WarmedH.refl U) qG, qo⟩, fun U hU hW => ⟨rfl, by rw [hU], by rw [hU]; exact hh.1, va_K.moved hW.alike hK0, hh.2.1.weaken (fun _ _ _ _ => trivial), gx_G_in hGo hA hh hG0 hU hW, hh.2.2.2.1, hoka⟩⟩
          rfl (by rw [List.length_map]; exact hAl) hv.1 (by rw [hst]; simp [gx_v]) (by rw [gx_catsum]; show 2 * 0 + _ ≤ 8; omega) hd ⟨by omega, by omega⟩
      refine gx_after (ret := ret) (len := 3) (Q := Q) (st := st.drop (k + 1)) (a := (Value.ref (ad a) :: As.map (gx_v sp ad)).toArray) (fun T hT9 X => ?_) hA hh hv (fun v hm => hs v (List.mem_of_mem_drop hm)) hc1 hc2 hk1 hk2 hK (fun E h' ad' H' locs' q ce hQ r1 r2 g1 g2 g3 => by
      obtain ⟨hP', hD', hS', hok', hn', had'⟩ := r1
      exact vx_out (fun x hx9 => (hex x hx9).elim) hlk g1 g2 g3 (fun t ht _ => ⟨h', ad', hQ, ⟨by rw [ht]; exact hP', hD', hok', hn', had'⟩, hS'.F ht⟩) hS'.2.2 (Nat.sub_le _ _) (Nat.sub_le _ _))
      obtain ⟨v, st₀, t, T', L, h0, X', hL, e3, e4, hq, go⟩ := hr T hT9 X
      exact Or.inl ⟨v, st₀, t, T', L, h0, X', hL, e3, e4, gx_Q.mono gx_k0.to hq, go⟩
    | _ => simp only [gi_scall, ha] at hT
theorem gs_obj (hlink : Cond.methodLink my.cls idx Lib.objectInit ∈ Ts) (hinst : Cond.instanceMethod Lib.objectInit ∈ Ts) (hcode : Cond.code Lib.objectInit ⟨#[0xb1]⟩ 1 none ∈ Ts) (hd : decode cc pc = .ok (.invokespecial idx, 3)) : gx_Sn l zs (cl, tyl, G, Ts, cc, my, nL, ret) pc (gi_obj (pc + 3)) := by
  rintro ⟨p, l', e, R, s, m, args, below, meth, c⟩ ⟨D, dT, sp, A, n0, ad0⟩ d lv st h bc bs K Q C e1 ⟨⟨hx, hb, hml, hown, hnm0, hret⟩, hts, hK0, hA, hlk, hG0⟩ hex hf hlo hT hK hC ad H locs ls hh hv hs hc1 hc2
  have e1 : l' = l := e1
  subst e1
  have hf : R.frames = d + 20 := hf
  have hlo : R.locals = 64 * d + 2000 := hlo
  rcases st with _ | ⟨v, st⟩
  · exact False.elim hT
  cases v with
  | ref a =>
    cases hb1 : Nat.ble (st.map Value.category).sum 8 with
    | false => simp only [gi_obj, hb1] at hT
    | true =>
      simp only [gi_obj, hb1] at hT
      have hsum := Nat.le_of_ble_eq_true hb1
      exact W.objInit hx hb hown (hts _ hlink) (hts _ hinst) (hts _ hcode) rfl (hv.1.trans hml.symm) (rest := st.map (gx_v sp ad)) rfl hd (by omega) (by rw [gx_catsum]; show 2 * 0 + _ + 12 ≤ R.locals; omega) (hK _ hT ad H locs ls hh hv (fun v hm => hs v (List.mem_cons_of_mem _ hm)) hc1 hc2)
  | _ => exact False.elim hT
theorem gs_puti {ci k idx N : Nat} {Cn : String} {T : u_T} (hc : cl[ci]? = some (Cn, T, N)) (hin : ∀ w ∈ u_ws Cn T N, w ∈ Ts) (ty0 : Nat → FieldType) (hty : ∀ k, k < N → parseFieldDescriptor (T k).2.2.1 = some (ty0 k)) (hnm : ∀ a, a < N → ∀ b, b < N → a ≠ b → (T a).2.1 ≠ (T b).2.1) (hk : k < N) (hty1 : parseFieldDescriptor (T k).2.2.1 = some .int) (hlink : Cond.fieldLink my.cls idx (T k).1 (T k).2.1 (T k).2.2.1 ∈ Ts) (hfin : (T k).2.2.2 = false) (hd : decode cc pc = .ok (.putfield idx, 3)) : gx_s1 (cl, tyl, G, Ts, cc, my, nL, ret) pc (gi_puti ci k (pc + 3)) :=
  fun x y Fin lv st h bc bs K Q C hC hT hK => gs_put hc hin ty0 hty hnm hk hty1 hlink hfin hd x y Fin lv st h bc bs K Q C hC hT.to hK
theorem gs_ireti (hd : decode cc pc = .ok (.ireturn, 1)) : gx_sR (cl, tyl, G, Ts, cc, my, nL, some .int) pc gi_ireti :=
  fun x y lv st h bc bs K Q C hC hT => gs_iret hd x y lv st h bc bs K Q C hC hT.to
end GXV
end
section
/-! More instructions: longs, arrays of references, lengths, throws, copies, calls that never throw. Written by wip/tools/mach2.py. -/
def gi_lald (t nx : Nat) : gx_T := fun S K _ _ => match S with
  | (_, lv, .int i :: .ref a :: st, h, bc, bs) => match h[a]? with
    | some (.inl (t', n, .inr (.inl f))) => match Nat.beq t' t with
      | true => vp_in i n ∧ K (nx, lv, .long (f i.toNatClampNeg) :: st, h, bc, bs)
      | false => False
    | _ => False
  | _ => False
def gi_last (t nx : Nat) : gx_T := fun S K _ _ => match S with
  | (_, lv, .long x :: .int i :: .ref a :: st, h, bc, bs) => match h[a]? with
    | some (.inl (t', n, .inr (.inl f))) => match Nat.beq t' t with
      | true => vp_in i n ∧ K (nx, lv, st, h.set a (.inl (t', n, .inr (.inl (vp_updL f i.toNatClampNeg x)))), bc, bs)
      | false => False
    | _ => False
  | _ => False
def gi_lbin (f : Int64 → Int64 → Int64) (nx : Nat) : gx_T := fun S K _ _ => match S with
  | (_, lv, .long y :: .long x :: st, h, bc, bs) => K (nx, lv, .long (f x y) :: st, h, bc, bs)
  | _ => False
def gi_lsh (f : Int64 → Int32 → Int64) (nx : Nat) : gx_T := fun S K _ _ => match S with
  | (_, lv, .int y :: .long x :: st, h, bc, bs) => K (nx, lv, .long (f x y) :: st, h, bc, bs)
  | _ => False
def gi_i2l (nx : Nat) : gx_T := fun S K _ _ => match S with
  | (_, lv, .int x :: st, h, bc, bs) => K (nx, lv, .long x.toInt64 :: st, h, bc, bs)
  | _ => False
/-- a new array of longs -/
def gi_newl (t nx : Nat) : gx_T := fun S K _ _ => match S with
  | (_, lv, .int n :: st, h, bc, bs) => (¬ n < 0 ∧ n.toNatClampNeg * 8 ≤ 536870912) ∧ (1 ≤ bc ∧ n.toNatClampNeg ≤ bs) ∧ K (nx, lv, .ref h.length :: st, h ++ [.inl (t, n.toNatClampNeg, .inr (.inl (fun _ => 0)))], bc - 1, bs - n.toNatClampNeg)
  | _ => False
/-- an array of references -/
def gi_newr (t nx : Nat) : gx_T := fun S K _ _ => match S with
  | (_, lv, .int n :: st, h, bc, bs) => (¬ n < 0 ∧ n.toNatClampNeg * 8 ≤ 536870912) ∧ (1 ≤ bc ∧ n.toNatClampNeg ≤ bs) ∧ K (nx, lv, .ref h.length :: st, h ++ [.inl (t, n.toNatClampNeg, .inr (.inr (.inr (.inr (fun _ => none)))))], bc - 1, bs - n.toNatClampNeg)
  | _ => False
def gi_rald (t nx : Nat) : gx_T := fun S K _ _ => match S with
  | (_, lv, .int i :: .ref a :: st, h, bc, bs) => match h[a]? with
    | some (.inl (t', n, .inr (.inr (.inr (.inr f))))) => match Nat.beq t' t with
      | true => vp_in i n ∧ (f i.toNatClampNeg = none → K (nx, lv, .null :: st, h, bc, bs)) ∧ (∀ k, f i.toNatClampNeg = some k → K (nx, lv, .ref k :: st, h, bc, bs))
      | false => False
    | _ => False
  | _ => False
/-- a cell of one of the classes cs, or null -/
def gi_rast (t : Nat) (cs : List Nat) (nx : Nat) : gx_T := fun S K _ _ => match S with
  | (_, lv, .null :: .int i :: .ref a :: st, h, bc, bs) => match h[a]? with
    | some (.inl (t', n, .inr (.inr (.inr (.inr f))))) => match Nat.beq t' t with
      | true => vp_in i n ∧ K (nx, lv, st, h.set a (.inl (t', n, .inr (.inr (.inr (.inr (va_up f i.toNatClampNeg none)))))), bc, bs)
      | false => False
    | _ => False
  | (_, lv, .ref b :: .int i :: .ref a :: st, h, bc, bs) => match h[a]? with
    | some (.inl (t', n, .inr (.inr (.inr (.inr f))))) => match Nat.beq t' t with
      | true => (∃ c fs, h[b]? = some (.inr (c, fs)) ∧ c ∈ cs) ∧ vp_in i n ∧ K (nx, lv, st, h.set a (.inl (t', n, .inr (.inr (.inr (.inr (va_up f i.toNatClampNeg (some b))))))), bc, bs)
      | false => False
    | _ => False
  | _ => False
/-- a length, of an array of one of the first nT tags -/
def gi_alenT (nT nx : Nat) : gx_T := fun S K _ _ => match S with
  | (_, lv, .ref a :: st, h, bc, bs) => match h[a]? with
    | some (.inl (t', x)) => match Nat.blt t' nT with
      | true => K (nx, lv, .int (Int32.ofNat x.1) :: st, h, bc, bs)
      | false => False
    | _ => False
  | _ => False
def gi_aret : gx_T := fun S _ Q _ => match S with
  | (_, _, [v], h, _, _) => match gx_isR v with
    | true => Q (.inl (some v), h)
    | false => False
  | _ => False
/-- throw new E() -/
def gi_thr (E : String) : gx_T := fun S _ Q _ => match S with
  | (_, _, st, h, bc, bs) => match Nat.ble (st.map Value.category).sum 8 with
    | true => (1 ≤ bc ∧ 6 ≤ bs) ∧ Q (.inr E, h)
    | false => False
/-- Math.max -/
def gi_max (nx : Nat) : gx_T := fun S K _ _ => match S with
  | (_, lv, .int y :: .int x :: st, h, bc, bs) => match Nat.ble (st.map Value.category).sum 8 with
    | true => K (nx, lv, .int (if x < y then y else x) :: st, h, bc, bs)
    | false => False
  | _ => False
/-- System.arraycopy between two arrays of tag t -/
def gi_copy (t : Nat) (fit : Int32 → Prop) (nx : Nat) : gx_T := fun S K _ _ => match S with
  | (_, lv, .int n :: .int dp :: .ref a1 :: .int sp :: .ref a0 :: st, h, bc, bs) => match h[a0]?, h[a1]? with
    | some (.inl (t0, n0, .inl f)), some (.inl (t1, n1, .inl g)) => match Nat.beq t0 t, Nat.beq t1 t, Nat.ble (st.map Value.category).sum 8 with
      | true, true, true => ((¬ sp < 0 ∧ ¬ dp < 0 ∧ ¬ n < 0) ∧ sp.toNatClampNeg + n.toNatClampNeg ≤ n0 ∧ dp.toNatClampNeg + n.toNatClampNeg ≤ n1 ∧ ∀ i, i < n.toNatClampNeg → fit (f (sp.toNatClampNeg + i))) ∧
          K (nx, lv, st, h.set a1 (.inl (t1, n1, .inl (va_cpy f g sp.toNatClampNeg dp.toNatClampNeg n.toNatClampNeg))), bc, bs)
      | _, _, _ => False
    | _, _ => False
  | _ => False
/-- behind a call that never throws -/
def gx_k1 (lv : List (Option Value)) (st : List Value) (nx bc bs : Nat) (K : gx_S → Prop) : gx_R → Prop := fun r => match r with
  | (.inl none, h) => K (nx, lv, st, h, bc, bs)
  | (.inl (some v), h) => K (nx, lv, v :: st, h, bc, bs)
  | _ => False
def gi_pcall (m' n nL nx : Nat) : gx_T := fun S K _ C => match S with
  | (_, lv, st, h, bc, bs) => gi_callK m' n nL st h bc bs (fun kc ks => gx_k1 lv (st.drop n) nx (bc - kc) (bs - ks) K) C
/-- a call by the receiver's class that never throws -/
def gi_vpcall (sel : Nat → Option (Nat × Nat)) (k nx : Nat) : gx_T := fun S K _ C => match S with
  | (_, lv, st, h, bc, bs) => match st[k]? with
    | some (.ref a) => match h[a]? with
      | some (.inr (c, _)) => match sel c with
        | some (m', nL) => gi_callK m' (k + 1) nL st h bc bs (fun kc ks => gx_k1 lv (st.drop (k + 1)) nx (bc - kc) (bs - ks) K) C
        | none => False
      | _ => False
    | _ => False
/-- checkcast of a cell of one of the classes cs -/
def gi_cast (cs : List Nat) (nx : Nat) : gx_T := fun S K _ _ => match S with
  | (_, lv, .null :: st, h, bc, bs) => K (nx, lv, .null :: st, h, bc, bs)
  | (_, lv, .ref a :: st, h, bc, bs) => (∃ c fs, h[a]? = some (.inr (c, fs)) ∧ c ∈ cs) ∧ K (nx, lv, .ref a :: st, h, bc, bs)
  | _ => False
section GXM
variable {cl : List vw_C} {tyl : List FieldType} {Ts : List Cond} {G : (Nat → Nat) → (Nat → Prop) → State → Heap → Prop} {cc : ByteArray} {my : MethodName} {nL : Nat} {ret : Option FieldType} {pc nx : Nat} {l : Launch} {zs : Nat → gx_M}
theorem gs_lbin {f : Int64 → Int64 → Int64} (hrow : ∀ (ls : Array Slot) (rest : List Value) (a b : Int64), gx_go cc (fun m => F0 m pc ls (.long b :: .long a :: rest)) (fun m => F0 m nx ls (.long (f a b) :: rest))) : gx_s1 (cl, tyl, G, Ts, cc, my, nL, ret) pc (gi_lbin f nx) := by
  rintro ⟨p, l, e, R, s, m, args, below, meth, c⟩ ⟨D, dT, sp, A, n0, ad0⟩ Fin lv st h bc bs K Q C ⟨⟨hx, hb, hml, hown, hnm0, hret⟩, hts, hK0, hA, hlk, hG⟩ hT hK ad H locs ls hh hv hs hc1 hc2
  rcases st with _ | ⟨v, st⟩
  · exact False.elim hT
  cases v with
  | long b =>
    rcases st with _ | ⟨v, st⟩
    · exact False.elim hT
    cases v with
    | long a =>
      exact hrow ls _ a b p l e R s m args below meth c H locs _ _ Fin hx hb (hK _ hT ad H locs ls hh hv (fun w hm => by
                rcases List.mem_cons.mp hm with e1 | e1
                · rw [e1]; trivial
                · exact hs w (List.mem_cons_of_mem _ (List.mem_cons_of_mem _ e1))) hc1 hc2)
    | _ => exact False.elim hT
  | _ => exact False.elim hT
theorem gs_lsh {f : Int64 → Int32 → Int64} (hrow : ∀ (ls : Array Slot) (rest : List Value) (a : Int64) (b : Int32), gx_go cc (fun m => F0 m pc ls (.int b :: .long a :: rest)) (fun m => F0 m nx ls (.long (f a b) :: rest))) : gx_s1 (cl, tyl, G, Ts, cc, my, nL, ret) pc (gi_lsh f nx) := by
  rintro ⟨p, l, e, R, s, m, args, below, meth, c⟩ ⟨D, dT, sp, A, n0, ad0⟩ Fin lv st h bc bs K Q C ⟨⟨hx, hb, hml, hown, hnm0, hret⟩, hts, hK0, hA, hlk, hG⟩ hT hK ad H locs ls hh hv hs hc1 hc2
  rcases st with _ | ⟨v, st⟩
  · exact False.elim hT
  cases v with
  | int b =>
    rcases st with _ | ⟨v, st⟩
    · exact False.elim hT
    cases v with
    | long a =>
      exact hrow ls _ a b p l e R s m args below meth c H locs _ _ Fin hx hb (hK _ hT ad H locs ls hh hv (fun w hm => by
                rcases List.mem_cons.mp hm with e1 | e1
                · rw [e1]; trivial
                · exact hs w (List.mem_cons_of_mem _ (List.mem_cons_of_mem _ e1))) hc1 hc2)
    | _ => exact False.elim hT
  | _ => exact False.elim hT
theorem gs_i2l (hd : decode cc pc = .ok (.i2l, 1)) : gx_s1 (cl, tyl, G, Ts, cc, my, nL, ret) pc (gi_i2l (pc + 1)) := by
  rintro ⟨p, l, e, R, s, m, args, below, meth, c⟩ ⟨D, dT, sp, A, n0, ad0⟩ Fin lv st h bc bs K Q C ⟨⟨hx, hb, hml, hown, hnm0, hret⟩, hts, hK0, hA, hlk, hG⟩ hT hK ad H locs ls hh hv hs hc1 hc2
  rcases st with _ | ⟨v, st⟩
  · exact False.elim hT
  cases v with
  | int a =>
    exact lv_i2l hx hb hd rfl (hK _ hT ad H locs ls hh hv (fun w hm => by
              rcases List.mem_cons.mp hm with e1 | e1
              · rw [e1]; trivial
              · exact hs w (List.mem_cons_of_mem _ e1)) hc1 hc2)
  | _ => exact False.elim hT
theorem gs_lald {t : Nat} (ht : tyl[t]? = some .long) (hd : decode cc pc = .ok (.laload, 1)) : gx_s1 (cl, tyl, G, Ts, cc, my, nL, ret) pc (gi_lald t (pc + 1)) := by
  rintro ⟨p, l, e, R, s, m, args, below, meth, c⟩ ⟨D, dT, sp, A, n0, ad0⟩ Fin lv st h bc bs K Q C ⟨⟨hx, hb, hml, hown, hnm0, hret⟩, hts, hK0, hA, hlk, hG⟩ hT hK ad H locs ls hh hv hs hc1 hc2
  rcases st with _ | ⟨v, st⟩
  · exact False.elim hT
  cases v with
  | int i =>
    rcases st with _ | ⟨v, st⟩
    · exact False.elim hT
    cases v with
    | ref a =>
      cases hcell : h[a]? with
      | none => simp only [gi_lald, hcell] at hT
      | some ce =>
        obtain ⟨t0, n, f | f | f⟩ | ⟨c0, fs⟩ := ce
        · simp only [gi_lald, hcell] at hT
        · cases hb1 : Nat.beq t0 t with
          | false => simp only [gi_lald, hcell, hb1] at hT
          | true =>
            simp only [gi_lald, hcell, hb1] at hT
            have e0 : t0 = t := Nat.eq_of_beq_eq_true hb1
            subst e0
            exact va_lald hx hb hK0 hh.1 a t0 (gx_w_at hcell) (gx_ty_at ht) hT.1 hd (hK _ hT.2 ad H locs ls hh hv (fun w hm => by
              rcases List.mem_cons.mp hm with e1 | e1
              · rw [e1]; trivial
              · exact hs w (List.mem_cons_of_mem _ (List.mem_cons_of_mem _ e1))) hc1 hc2)
        · simp only [gi_lald, hcell] at hT
        · simp only [gi_lald, hcell] at hT
    | _ => exact False.elim hT
  | _ => exact False.elim hT
theorem gs_last {t : Nat} (ht : tyl[t]? = some .long) (hd : decode cc pc = .ok (.lastore, 1)) : gx_s1 (cl, tyl, G, Ts, cc, my, nL, ret) pc (gi_last t (pc + 1)) := by
  rintro ⟨p, l, e, R, s, m, args, below, meth, c⟩ ⟨D, dT, sp, A, n0, ad0⟩ Fin lv st h bc bs K Q C ⟨⟨hx, hb, hml, hown, hnm0, hret⟩, hts, hK0, hA, hlk, hG⟩ hT hK ad H locs ls hh hv hs hc1 hc2
  rcases st with _ | ⟨v, st⟩
  · exact False.elim hT
  cases v with
  | long x =>
    rcases st with _ | ⟨v, st⟩
    · exact False.elim hT
    cases v with
    | int i =>
      rcases st with _ | ⟨v, st⟩
      · exact False.elim hT
      cases v with
      | ref a =>
        cases hcell : h[a]? with
        | none => simp only [gi_last, hcell] at hT
        | some ce =>
          obtain ⟨t0, n, f | f | f⟩ | ⟨c0, fs⟩ := ce
          · simp only [gi_last, hcell] at hT
          · cases hb1 : Nat.beq t0 t with
            | false => simp only [gi_last, hcell, hb1] at hT
            | true =>
              simp only [gi_last, hcell, hb1] at hT
              have e0 : t0 = t := Nat.eq_of_beq_eq_true hb1
              subst e0
              obtain ⟨hP, hD, hS, hok, hn0, had⟩ := id hh
              refine va_last hx hb hK0 hP hD hS a t0 (gx_w_at hcell) (gx_ty_at ht) hT.1 hd (fun H1 locs1 hP1 hD1 hS1 => ?_)
              have ew : (gx_w dT sp ad h).set a (ad a, .inl (dT t0, n, .inr (.inl (vp_updL f i.toNatClampNeg x)))) = gx_w dT sp ad (h.set a (.inl (t0, n, .inr (.inl (vp_updL f i.toNatClampNeg x))))) := gx_w_set dT sp ad h a (.inl (t0, n, .inr (.inl (vp_updL f i.toNatClampNeg x))))
              have el : (h.set a (.inl (t0, n, .inr (.inl (vp_updL f i.toNatClampNeg x))))).length = h.length := List.length_set
              exact hK _ hT.2 ad H1 locs1 ls ⟨by rw [← ew]; exact hP1, by rw [← ew]; exact hD1, hS1, hok.set trivial, by rw [el]; exact hn0, had⟩ (by rw [el]; exact hv) (by rw [el]; exact (fun w e1 => hs w (List.mem_cons_of_mem _ (List.mem_cons_of_mem _ (List.mem_cons_of_mem _ e1))))) hc1 hc2
          · simp only [gi_last, hcell] at hT
          · simp only [gi_last, hcell] at hT
      | _ => exact False.elim hT
    | _ => exact False.elim hT
  | _ => exact False.elim hT
theorem gs_rald {t : Nat} {E : String} (ht : tyl[t]? = some (.object E)) (hd : decode cc pc = .ok (.aaload, 1)) : gx_s1 (cl, tyl, G, Ts, cc, my, nL, ret) pc (gi_rald t (pc + 1)) := by
  rintro ⟨p, l, e, R, s, m, args, below, meth, c⟩ ⟨D, dT, sp, A, n0, ad0⟩ Fin lv st h bc bs K Q C ⟨⟨hx, hb, hml, hown, hnm0, hret⟩, hts, hK0, hA, hlk, hG⟩ hT hK ad H locs ls hh hv hs hc1 hc2
  rcases st with _ | ⟨v, st⟩
  · exact False.elim hT
  cases v with
  | int i =>
    rcases st with _ | ⟨v, st⟩
    · exact False.elim hT
    cases v with
    | ref a =>
      cases hcell : h[a]? with
      | none => simp only [gi_rald, hcell] at hT
      | some ce =>
        obtain ⟨t0, n, f | f | f | f | f⟩ | ⟨c0, fs⟩ := ce
        · simp only [gi_rald, hcell] at hT
        · simp only [gi_rald, hcell] at hT
        · simp only [gi_rald, hcell] at hT
        · simp only [gi_rald, hcell] at hT
        · cases hb1 : Nat.beq t0 t with
          | false => simp only [gi_rald, hcell, hb1] at hT
          | true =>
            simp only [gi_rald, hcell, hb1] at hT
            have e0 : t0 = t := Nat.eq_of_beq_eq_true hb1
            subst e0
            obtain ⟨hin, hn, hk⟩ := hT
            refine va_aldq hx hb hK0 hh.1 a t0 (f := fun j => (f j).map ad) (gx_w_at hcell) (gx_ty_at ht) hin hd ?_
            have hs' : gx_Rs st h.length := (fun w e1 => hs w (List.mem_cons_of_mem _ (List.mem_cons_of_mem _ e1)))
            cases hf : f i.toNatClampNeg with
            | none =>
              simp only [Option.map_none]
              exact hK _ (hn hf) ad H locs ls hh hv (fun w hm => by
                rcases List.mem_cons.mp hm with e1 | e1
                · rw [e1]; trivial
                · exact hs' w e1) hc1 hc2
            | some k =>
              simp only [Option.map_some]
              exact hK _ (hk k hf) ad H locs ls hh hv (fun w hm => by
                rcases List.mem_cons.mp hm with e1 | e1
                · rw [e1]; exact hh.2.2.2.1 a _ hcell _ _ hf
                · exact hs' w e1) hc1 hc2
        · simp only [gi_rald, hcell] at hT
    | _ => exact False.elim hT
  | _ => exact False.elim hT
theorem gs_rast {t : Nat} {E : String} {cs : List Nat} (ht : tyl[t]? = some (.object E)) (hca : ∀ ci ∈ cs, ∃ r : vw_C, cl[ci]? = some r ∧ ∀ sp A U H, G sp A U H → va_Nw (.castable r.1 E) U) (hd : decode cc pc = .ok (.aastore, 1)) : gx_s1 (cl, tyl, G, Ts, cc, my, nL, ret) pc (gi_rast t cs (pc + 1)) := by
  rintro ⟨p, l, e, R, s, m, args, below, meth, c⟩ ⟨D, dT, sp, A, n0, ad0⟩ Fin lv st h bc bs K Q C ⟨⟨hx, hb, hml, hown, hnm0, hret⟩, hts, hK0, hA, hlk, hG⟩ hT hK ad H locs ls hh hv hs hc1 hc2
  rcases st with _ | ⟨v, st⟩
  · exact False.elim hT
  cases v with
  | null =>
    rcases st with _ | ⟨v, st⟩
    · exact False.elim hT
    cases v with
    | int i =>
      rcases st with _ | ⟨v, st⟩
      · exact False.elim hT
      cases v with
      | ref a =>
        cases hcell : h[a]? with
        | none => simp only [gi_rast, hcell] at hT
        | some ce =>
          obtain ⟨t0, n, f | f | f | f | f⟩ | ⟨c0, fs⟩ := ce
          · simp only [gi_rast, hcell] at hT
          · simp only [gi_rast, hcell] at hT
          · simp only [gi_rast, hcell] at hT
          · simp only [gi_rast, hcell] at hT
          · cases hb1 : Nat.beq t0 t with
            | false => simp only [gi_rast, hcell, hb1] at hT
            | true =>
              simp only [gi_rast, hcell, hb1] at hT
              have e0 : t0 = t := Nat.eq_of_beq_eq_true hb1
              subst e0
              obtain ⟨hP, hD, hS, hok, hn0, had⟩ := id hh
              refine va_astqN hx hb hK0 hP hD hS a t0 (f := fun j => (f j).map ad) (gx_w_at hcell) (gx_ty_at ht) hT.1 hd (fun H1 locs1 hP1 hD1 hS1 => ?_)
              have el : (h.set a (.inl (t0, n, .inr (.inr (.inr (.inr (va_up f i.toNatClampNeg none))))))).length = h.length := List.length_set
              have ew : gx_w dT sp ad (h.set a (.inl (t0, n, .inr (.inr (.inr (.inr (va_up f i.toNatClampNeg none))))))) = (gx_w dT sp ad h).set a (ad a, .inl (dT t0, n, .inr (.inr (.inr (.inr (va_up (fun j => (f j).map ad) i.toNatClampNeg none)))))) := by
                rw [← gx_w_set]
                congr 1
                show (ad a, Sum.inl (dT t0, n, Sum.inr (Sum.inr (Sum.inr (Sum.inr (fun j => (va_up f i.toNatClampNeg none j).map ad)))))) = _
                congr 8
                funext j
                unfold va_up
                by_cases hj : j = i.toNatClampNeg <;> simp [hj]
              refine hK _ hT.2 ad H1 locs1 ls ⟨by rw [ew]; exact hP1, by rw [ew]; exact hD1, hS1, hok.set (fun j k hj => ?_), by rw [el]; exact hn0, had⟩ (by rw [el]; exact hv) (by rw [el]; exact (fun w e1 => hs w (List.mem_cons_of_mem _ (List.mem_cons_of_mem _ (List.mem_cons_of_mem _ e1))))) hc1 hc2
              unfold va_up at hj
              by_cases hji : j = i.toNatClampNeg
              · rw [if_pos hji] at hj
                cases hj
              · rw [if_neg hji] at hj
                exact hok a _ hcell j k hj
          · simp only [gi_rast, hcell] at hT
      | _ => exact False.elim hT
    | _ => exact False.elim hT
  | ref b =>
    rcases st with _ | ⟨v, st⟩
    · exact False.elim hT
    cases v with
    | int i =>
      rcases st with _ | ⟨v, st⟩
      · exact False.elim hT
      cases v with
      | ref a =>
        cases hcell : h[a]? with
        | none => simp only [gi_rast, hcell] at hT
        | some ce =>
          obtain ⟨t0, n, f | f | f | f | f⟩ | ⟨c0, fs⟩ := ce
          · simp only [gi_rast, hcell] at hT
          · simp only [gi_rast, hcell] at hT
          · simp only [gi_rast, hcell] at hT
          · simp only [gi_rast, hcell] at hT
          · cases hb1 : Nat.beq t0 t with
            | false => simp only [gi_rast, hcell, hb1] at hT
            | true =>
              simp only [gi_rast, hcell, hb1] at hT
              have e0 : t0 = t := Nat.eq_of_beq_eq_true hb1
              subst e0
              obtain ⟨hP, hD, hS, hok, hn0, had⟩ := id hh
              obtain ⟨⟨cb, fb, hcb, hcs⟩, hin, hT⟩ := hT
              obtain ⟨r, hr, hg9⟩ := hca cb hcs
              refine va_astqO hx hb hK0 hP hD hS a t0 b cb (f := fun j => (f j).map ad) (gx_w_at hcell) (gx_ty_at ht) (hg9 _ _ _ _ hG) (gx_w_at hcb) hr hin hd (fun H1 locs1 hP1 hD1 hS1 => ?_)
              have el : (h.set a (.inl (t0, n, .inr (.inr (.inr (.inr (va_up f i.toNatClampNeg (some b)))))))).length = h.length := List.length_set
              have ew : gx_w dT sp ad (h.set a (.inl (t0, n, .inr (.inr (.inr (.inr (va_up f i.toNatClampNeg (some b)))))))) = (gx_w dT sp ad h).set a (ad a, .inl (dT t0, n, .inr (.inr (.inr (.inr (va_up (fun j => (f j).map ad) i.toNatClampNeg (some (ad b)))))))) := by
                rw [← gx_w_set]
                congr 1
                show (ad a, Sum.inl (dT t0, n, Sum.inr (Sum.inr (Sum.inr (Sum.inr (fun j => (va_up f i.toNatClampNeg (some b) j).map ad)))))) = _
                congr 8
                funext j
                unfold va_up
                by_cases hj : j = i.toNatClampNeg <;> simp [hj]
              refine hK _ hT ad H1 locs1 ls ⟨by rw [ew]; exact hP1, by rw [ew]; exact hD1, hS1, hok.set (fun j k hj => ?_), by rw [el]; exact hn0, had⟩ (by rw [el]; exact hv) (by rw [el]; exact (fun w e1 => hs w (List.mem_cons_of_mem _ (List.mem_cons_of_mem _ (List.mem_cons_of_mem _ e1))))) hc1 hc2
              unfold va_up at hj
              by_cases hji : j = i.toNatClampNeg
              · rw [if_pos hji] at hj
                cases hj; exact hs _ List.mem_cons_self
              · rw [if_neg hji] at hj
                exact hok a _ hcell j k hj
          · simp only [gi_rast, hcell] at hT
      | _ => exact False.elim hT
    | _ => exact False.elim hT
  | _ => exact False.elim hT
theorem gs_alenT {nT : Nat} (hnT : nT ≤ tyl.length) (hd : decode cc pc = .ok (.arraylength, 1)) : gx_s1 (cl, tyl, G, Ts, cc, my, nL, ret) pc (gi_alenT nT (pc + 1)) := by
  rintro ⟨p, l, e, R, s, m, args, below, meth, c⟩ ⟨D, dT, sp, A, n0, ad0⟩ Fin lv st h bc bs K Q C ⟨⟨hx, hb, hml, hown, hnm0, hret⟩, hts, hK0, hA, hlk, hG⟩ hT hK ad H locs ls hh hv hs hc1 hc2
  rcases st with _ | ⟨v, st⟩
  · exact False.elim hT
  cases v with
  | ref a =>
    cases hcell : h[a]? with
    | none => simp only [gi_alenT, hcell] at hT
    | some ce =>
      obtain ⟨t0, n, x⟩ | ⟨c0, fs⟩ := ce
      · cases hb1 : Nat.blt t0 nT with
        | false => simp only [gi_alenT, hcell, hb1] at hT
        | true =>
          simp only [gi_alenT, hcell, hb1] at hT
          have hlt : t0 < tyl.length := Nat.lt_of_lt_of_le (Nat.le_of_ble_eq_true hb1) hnT
          have hn : (gx_a ad (n, x)).1 = n := by rcases x with x | x | x | x | x <;> rfl
          exact va_alen hx hb hK0 hh.1 a t0 (gx_w_at hcell) (gx_ty_at (List.getElem?_eq_getElem hlt)) (by rw [hn]) hd (hK _ hT ad H locs ls hh hv (fun w hm => by
            rcases List.mem_cons.mp hm with e1 | e1
            · rw [e1]; trivial
            · exact hs w (List.mem_cons_of_mem _ e1)) hc1 hc2)
      · simp only [gi_alenT, hcell] at hT
  | _ => exact False.elim hT
end GXM
end
section
/-! Ends, throws, copies and calls for the class. Written by wip/tools/mach3.py. -/
section GXN
variable {cl : List vw_C} {tyl : List FieldType} {Ts : List Cond} {G : (Nat → Nat) → (Nat → Prop) → State → Heap → Prop} {cc : ByteArray} {my : MethodName} {nL : Nat} {ret : Option FieldType} {pc : Nat} {l : Launch} {zs : Nat → gx_M}
variable {idx m' k nL' : Nat} {Ts' Ts'' : List Cond} {cc' : ByteArray} {my' : MethodName} {ret' : Option FieldType}
theorem gx_k1.to {lv : List (Option Value)} {st : List Value} {nx bc bs : Nat} {K : gx_S → Prop} {Q : gx_R → Prop} (r : gx_R) (h : gx_k1 lv st nx bc bs K r) : gx_k lv st nx bc bs K Q r := by
  obtain ⟨v, hp⟩ := r
  rcases v with v | v
  · cases v with
    | none => exact h
    | some u => exact h
  · exact False.elim h
theorem gs_aret {rt : FieldType} (hrt : (∃ n, rt = .object n) ∨ ∃ t, rt = .array t) (hd : decode cc pc = .ok (.areturn, 1)) : gx_sR (cl, tyl, G, Ts, cc, my, nL, some rt) pc gi_aret := by
  rintro ⟨p, l, e, R, s, m, args, below, meth, c⟩ ⟨D, dT, sp, A, n0, ad0⟩ lv st h bc bs K Q C ⟨⟨hx, hb, hml, hown, hnm0, hret⟩, hts, hK0, hA, hlk, hG⟩ hT ad H locs ls hh hv hs hc1 hc2
  rcases st with _ | ⟨v, _ | ⟨w, st⟩⟩
  · exact False.elim hT
  · cases hr9 : gx_isR v with
    | false => simp only [gi_aret, hr9] at hT
    | true =>
      simp only [gi_aret, hr9] at hT
      obtain ⟨hP, hD, hS, hok, hn0, had⟩ := hh
      refine vx_ret (W.widen (k := R.cells) (n := R.slots) (Nat.sub_le _ _) (Nat.sub_le _ _) ?_)
      refine W.aret hx hb hret hrt ?_ (fun t ht hW => ⟨some v, h, ad, hT, rfl, (fun u hu => by cases hu; exact hs v List.mem_cons_self), ⟨by rw [ht]; exact hP, hD, hok, hn0, had⟩, hS.F ht⟩) hS.2.2 hd hlk
      cases v with
      | ref a => exact Or.inr ⟨_, rfl⟩
      | retAddr a => exact Or.inr ⟨_, rfl⟩
      | null => exact Or.inl rfl
      | _ => cases hr9
  · exact False.elim hT
theorem gs_newl {t : Nat} (ht : tyl[t]? = some .long) (hw : Cond.arrayClass .long ∈ Ts) (hd : decode cc pc = .ok (.newarray .long, 2)) : gx_s1 (cl, tyl, G, Ts, cc, my, nL, ret) pc (gi_newl t (pc + 2)) := by
  rintro ⟨p, l, e, R, s, m, args, below, meth, c⟩ ⟨D, dT, sp, A, n0, ad0⟩ Fin lv st h bc bs K Q C ⟨⟨hx, hb, hml, hown, hnm0, hret⟩, hts, hK0, hA, hlk, hG⟩ hT hK ad H locs ls hh hv hs hc1 hc2
  rcases st with _ | ⟨v, st⟩
  · exact False.elim hT
  cases v with
  | int n =>
    obtain ⟨⟨hn, hby⟩, ⟨hb1, hb2⟩, hT⟩ := hT
    obtain ⟨hP, hD, hS, hok, hn0, had⟩ := hh
    refine va_newa (atype := .long) hx hb (hts _ hw) rfl hK0 hP hD hS hA (a0 := (n.toNatClampNeg, .inr (.inl (fun _ => 0)))) (fun cA => rfl) hn rfl (Nat.le_trans (Nat.mul_le_mul_left _ (by decide)) hby) (by omega) (by omega) hd (fun q cA H1 hK1 hP1 hD1 hS1 => ?_)
    have e1 : cA = dT t := by
      have h1 : s.vm.findClass ("[" ++ (FieldType.long).toString) = some cA := (hK1.2 (gx_ty dT tyl).length (cA, .long) (by rw [List.getElem?_append_right (Nat.le_refl _), Nat.sub_self]; rfl)).2
      have h2 : s.vm.findClass ("[" ++ (FieldType.long).toString) = some (dT t) := (hK0.2 t (dT t, .long) (gx_ty_at ht)).2
      exact Option.some.inj (h1.symm.trans h2)
    subst e1
    have hlen : (h ++ [(Sum.inl (t, n.toNatClampNeg, Sum.inr (Sum.inl (fun _ => 0))) : gx_E)]).length = h.length + 1 := by simp
    have hext : ∀ k, k < h.length → (fun k => if k = h.length then q else ad k) k = ad k := fun k hk => if_neg (Nat.ne_of_lt hk)
    have ew : gx_w dT sp (fun k => if k = h.length then q else ad k) (h ++ [(Sum.inl (t, n.toNatClampNeg, Sum.inr (Sum.inl (fun _ => 0))) : gx_E)]) = gx_w dT sp ad h ++ [(q, .inl (dT t, n.toNatClampNeg, .inr (.inl (fun _ => 0))))] := by
      rw [gx_w.push (ad := ad) _ hok hext]
      congr 1
      show [((if h.length = h.length then q else ad h.length), _)] = _
      rw [if_pos rfl]
      rfl
    have hst : (st.map (gx_v sp ad)) = st.map (gx_v sp (fun k => if k = h.length then q else ad k)) := List.map_congr_left (fun v hm => (gx_v.ext (hs v (List.mem_cons_of_mem _ hm)) hext).symm)
    rw [show R.cells - bc + 1 = R.cells - (bc - 1) by omega, show R.slots - bs + n.toNatClampNeg = R.slots - (bs - n.toNatClampNeg) by omega, hst]
    have hg := hK _ hT (fun k => if k = h.length then q else ad k) H1 locs ls ⟨by rw [ew]; exact hP1, by rw [ew]; exact hD1, hS1, hok.push trivial, by rw [hlen]; omega, fun k hk => (hext k (Nat.lt_of_lt_of_le hk hn0)).trans (had k hk)⟩
      ⟨hv.1, hv.2.1, hv.2.2.1, fun i v hi => ⟨by rw [gx_v.ext (hv.2.2.2 i v hi).2.1 hext]; exact (hv.2.2.2 i v hi).1, (hv.2.2.2 i v hi).2.1.le (by rw [hlen]; omega), (hv.2.2.2 i v hi).2.2⟩⟩
      (fun v hm => by
        rcases List.mem_cons.mp hm with e1 | e1
        · rw [e1]; show h.length < (h ++ [_]).length; rw [hlen]; omega
        · exact (hs v (List.mem_cons_of_mem _ e1)).le (by rw [hlen]; omega)) (by omega) (by omega)
    rw [List.map_cons] at hg
    have e0 : gx_v sp (fun k => if k = h.length then q else ad k) (.ref h.length) = .ref q := by
      show Value.ref (if h.length = h.length then q else ad h.length) = .ref q
      rw [if_pos rfl]
    rw [e0] at hg
    exact hg
  | _ => exact False.elim hT
theorem gs_newr {t : Nat} {E : String} (ht : tyl[t]? = some (.object E)) (hw : Cond.classLink my.cls idx E ∈ Ts) (hAO : ∀ sp A U H, G sp A U H → va_AO E U) (hd : decode cc pc = .ok (.anewarray idx, 3)) : gx_s1 (cl, tyl, G, Ts, cc, my, nL, ret) pc (gi_newr t (pc + 3)) := by
  rintro ⟨p, l, e, R, s, m, args, below, meth, c⟩ ⟨D, dT, sp, A, n0, ad0⟩ Fin lv st h bc bs K Q C ⟨⟨hx, hb, hml, hown, hnm0, hret⟩, hts, hK0, hA, hlk, hG⟩ hT hK ad H locs ls hh hv hs hc1 hc2
  rcases st with _ | ⟨v, st⟩
  · exact False.elim hT
  cases v with
  | int n =>
    obtain ⟨⟨hn, hby⟩, ⟨hb1, hb2⟩, hT⟩ := hT
    obtain ⟨hP, hD, hS, hok, hn0, had⟩ := hh
    refine va_newq hx hb hown (hts _ hw) (hAO _ _ _ _ hG) hK0 hP hD hS hA hn rfl (Nat.le_trans (Nat.mul_le_mul_left _ (by decide)) hby) (by omega) (by omega) hd (fun q cA H1 hK1 hP1 hD1 hS1 => ?_)
    have e1 : cA = dT t := by
      obtain ⟨kA, comp, g1, g2, g3, g4⟩ := (hK1.2 (gx_ty dT tyl).length (cA, .object E) (by rw [List.getElem?_append_right (Nat.le_refl _), Nat.sub_self]; rfl)).2
      obtain ⟨kB, comq, f1, f2, f3, f4⟩ := (hK0.2 t (dT t, .object E) (gx_ty_at ht)).2
      exact Option.some.inj (g4.symm.trans f4)
    subst e1
    have hlen : (h ++ [(Sum.inl (t, n.toNatClampNeg, Sum.inr (Sum.inr (Sum.inr (Sum.inr (fun _ => none))))) : gx_E)]).length = h.length + 1 := by simp
    have hext : ∀ k, k < h.length → (fun k => if k = h.length then q else ad k) k = ad k := fun k hk => if_neg (Nat.ne_of_lt hk)
    have ew : gx_w dT sp (fun k => if k = h.length then q else ad k) (h ++ [(Sum.inl (t, n.toNatClampNeg, Sum.inr (Sum.inr (Sum.inr (Sum.inr (fun _ => none))))) : gx_E)]) = gx_w dT sp ad h ++ [(q, .inl (dT t, n.toNatClampNeg, .inr (.inr (.inr (.inr (fun _ => none))))))] := by
      rw [gx_w.push (ad := ad) _ hok hext]
      congr 1
      show [((if h.length = h.length then q else ad h.length), _)] = _
      rw [if_pos rfl]
      rfl
    have hst : (st.map (gx_v sp ad)) = st.map (gx_v sp (fun k => if k = h.length then q else ad k)) := List.map_congr_left (fun v hm => (gx_v.ext (hs v (List.mem_cons_of_mem _ hm)) hext).symm)
    rw [show R.cells - bc + 1 = R.cells - (bc - 1) by omega, show R.slots - bs + n.toNatClampNeg = R.slots - (bs - n.toNatClampNeg) by omega, hst]
    have hg := hK _ hT (fun k => if k = h.length then q else ad k) H1 locs ls ⟨by rw [ew]; exact hP1, by rw [ew]; exact hD1, hS1, hok.push (fun j k hj => by cases hj), by rw [hlen]; omega, fun k hk => (hext k (Nat.lt_of_lt_of_le hk hn0)).trans (had k hk)⟩
      ⟨hv.1, hv.2.1, hv.2.2.1, fun i v hi => ⟨by rw [gx_v.ext (hv.2.2.2 i v hi).2.1 hext]; exact (hv.2.2.2 i v hi).1, (hv.2.2.2 i v hi).2.1.le (by rw [hlen]; omega), (hv.2.2.2 i v hi).2.2⟩⟩
      (fun v hm => by
        rcases List.mem_cons.mp hm with e1 | e1
        · rw [e1]; show h.length < (h ++ [_]).length; rw [hlen]; omega
        · exact (hs v (List.mem_cons_of_mem _ e1)).le (by rw [hlen]; omega)) (by omega) (by omega)
    rw [List.map_cons] at hg
    have e0 : gx_v sp (fun k => if k = h.length then q else ad k) (.ref h.length) = .ref q := by
      show Value.ref (if h.length = h.length then q else ad h.length) = .ref q
      rw [if_pos rfl]
    rw [e0] at hg
    exact hg
  | _ => exact False.elim hT
theorem gs_callSN {host : String} (ez : zs m' = (cl, tyl, G, Ts', cc', my', nL', ret')) (hGo : gx_Gok G) (hG : GoodIn Ts Ts') (hw : Ts' = Cond.code my' cc' nL' ret' :: Ts'') (hini : Cond.initialized my'.cls ∈ Ts) (hnl : ∀ sp A U H, G sp A U H → va_Nw (.methodLinkNest my.cls idx my' host) U) (hstat : Cond.static my' ∈ Ts)
    (hd9 : my'.cls ≠ "java/lang/invoke/MethodHandle" ∧ my'.cls ≠ "java/lang/invoke/VarHandle" ∧ (parseMethodDescriptor my'.desc).map (fun d => d.parameters.length) = some k) (hmax : nL' ≤ 45 ∧ k ≤ nL') (hd : decode cc pc = .ok (.invokestatic idx, 3)) : gx_Sn l zs (cl, tyl, G, Ts, cc, my, nL, ret) pc (gi_pcall m' k nL' (pc + 3)) := by
  rintro ⟨p, l', e, R, s, m, args, below, meth, c⟩ ⟨D, dT, sp, A, n0, ad0⟩ d lv st h bc bs K Q C e1 ⟨⟨hx, hb, hml, hown, hnm0, hret⟩, hts, hK0, hA, hlk, hG0⟩ hex hf hlo hT hK hC ad H locs ls hh hv hs hc1 hc2
  have e1 : l' = l := e1
  subst e1
  have hf : R.frames = d + 20 := hf
  have hlo : R.locals = 64 * d + 2000 := hlo
  obtain ⟨⟨hsum, hcat, hlen⟩, kc, ks, ⟨hk1, hk2⟩, hcall⟩ := gx_call_inv hT
  obtain ⟨d', e2, hM⟩ := hC m' _ _ _ _ _ hcall
  rw [ez] at hM
  have hoka : ∀ v ∈ (st.take k).reverse, gx_ok h.length v := fun v hm => hs v (List.mem_of_mem_take (List.mem_reverse.mp hm))
  have hMet := hM (st.take k).reverse (by rw [hlen]) hcat (by rw [hlen]; exact hmax.2) ad H.size
  have hMet := gx_plain hMet (fun E st t hX => by obtain ⟨h9, ad9, hX, -⟩ := hX; exact hX)
  have hr : va_Run p l' e R s m args below meth c H locs (R.cells - bc) (R.slots - bs) kc ks (F0 m pc ls (st.map (gx_v sp ad))) ((st.drop k).map (gx_v sp ad)) (gx_Q cl (D, dT, sp, va_A (gx_w dT sp ad h) H.size, h.length, ad) (gx_k1 lv (st.drop k) (pc + 3) (bc - kc) (bs - ks) K) ((st.take k).reverse.map (gx_v sp ad)).toArray) (va_A (gx_w dT sp ad h) H.size) :=
    va_runSN ⟨hx, hb, hml, hown, hts⟩ hMet ⟨va_cnB k hts hG hw rfl rfl (hnl _ _ _ _ hG0) (hts _ hini) hd9 ⟨by show d' + 20 + 1 ≤ R.frames; omega, by show 8 + (nL' + 11) + (64 * d' + 2000) ≤ R.locals; omega⟩, hts _ hstat, trivial⟩ ⟨fun a9 U g mk q => by
          obtain ⟨q0, q1, qP, qK, qD, qG, qo⟩ := q
          exact ⟨q0, q1, qP, va_K.moved (u := U) (U := U.calling g mk a9) (Vm.Alike.refl U.vm) qK, qD, hGo.1 _ _ U (U.calling g mk a9) _ (State.WarmedH.refl U) qG, qo⟩, fun U hU hW => ⟨rfl, by rw [hU], by rw [hU]; exact hh.1, va_K.moved hW.alike hK0, hh.2.1.weaken (fun _ _ _ _ => trivial), gx_G_in hGo hA hh hG0 hU hW, hh.2.2.2.1, hoka⟩⟩ rfl (by rw [List.length_map]; exact hlen) hv.1 gx_stack (by rw [gx_catsum]; show 2 * 0 + _ ≤ 8; omega) hd ⟨by omega, by omega⟩
  refine gx_after (ret := ret) (len := 3) (Q := Q) (st := st.drop k) (a := ((st.take k).reverse.map (gx_v sp ad)).toArray) (fun T hT9 X => ?_) hA hh hv (fun v hm => hs v (List.mem_of_mem_drop hm)) hc1 hc2 hk1 hk2 hK (fun E h' ad' H' locs' q ce hQ r1 r2 g1 g2 g3 => by
        obtain ⟨hP', hD', hS', hok', hn', had'⟩ := r1
        exact vx_out (fun x hx9 => (hex x hx9).elim) hlk g1 g2 g3 (fun t ht _ => ⟨h', ad', hQ, ⟨by rw [ht]; exact hP', hD', hok', hn', had'⟩, hS'.F ht⟩) hS'.2.2 (Nat.sub_le _ _) (Nat.sub_le _ _))
  obtain ⟨v, st₀, t, T', L, h0, X', hL, e3, e4, hq, go⟩ := hr T hT9 X
  exact Or.inl ⟨v, st₀, t, T', L, h0, X', hL, e3, e4, gx_Q.mono gx_k1.to hq, go⟩
theorem gs_callIN {host : String} (ez : zs m' = (cl, tyl, G, Ts', cc', my', nL', none)) (hGo : gx_Gok G) (hG : GoodIn Ts Ts') (hw : Ts' = Cond.code my' cc' nL' none :: Ts'') (hini : Cond.initialized my'.cls ∈ Ts) (hnl : ∀ sp A U H, G sp A U H → va_Nw (.methodLinkNest my.cls idx my' host) U) (hinst : Cond.instanceMethod my' ∈ Ts) (hnm : my'.name = "<init>")
    (hd9 : my'.cls ≠ "java/lang/invoke/MethodHandle" ∧ my'.cls ≠ "java/lang/invoke/VarHandle" ∧ (parseMethodDescriptor my'.desc).map (fun d => d.parameters.length) = some k) (hmax : nL' ≤ 45 ∧ k + 1 ≤ nL') (hd : decode cc pc = .ok (.invokespecial idx, 3)) : gx_Sn l zs (cl, tyl, G, Ts, cc, my, nL, ret) pc (gi_scall m' k nL' (pc + 3)) := by
  rintro ⟨p, l', e, R, s, m, args, below, meth, c⟩ ⟨D, dT, sp, A, n0, ad0⟩ d lv st h bc bs K Q C e1 ⟨⟨hx, hb, hml, hown, hnm0, hret⟩, hts, hK0, hA, hlk, hG0⟩ hex hf hlo hT hK hC ad H locs ls hh hv hs hc1 hc2
  have e1 : l' = l := e1
  subst e1
  have hf : R.frames = d + 20 := hf
  have hlo : R.locals = 64 * d + 2000 := hlo
  cases ha : st[k]? with
  | none => simp only [gi_scall, ha] at hT
  | some v0 =>
    cases v0 with
    | ref a =>
      simp only [gi_scall, ha] at hT
      obtain ⟨⟨hsum, hcat, hlen⟩, kc, ks, ⟨hk1, hk2⟩, hcall⟩ := gx_call_inv hT
      obtain ⟨d', e2, hM⟩ := hC m' _ _ _ _ _ hcall
      rw [ez] at hM
      obtain ⟨As, eAs, hAl⟩ := gx_recv hlen ha
      rw [eAs] at hcat hM
      have hoka : ∀ v ∈ Value.ref a :: As, gx_ok h.length v := fun v hm => hs v (List.mem_of_mem_take (List.mem_reverse.mp (by rw [eAs]; exact hm)))
      have hMet := hM (.ref a :: As) (by rw [List.length_cons, hAl]) hcat (by rw [List.length_cons, hAl]; exact hmax.2) ad H.size
      have hst := gx_stack (sp := sp) (ad := ad) (st := st) (n := k + 1)
      rw [eAs] at hst
      have hMet := gx_plain hMet (fun E st t hX => by obtain ⟨h9, ad9, hX, -⟩ := hX; exact hX)
      have hr : va_Run p l' e R s m args below meth c H locs (R.cells - bc) (R.slots - bs) kc ks (F0 m pc ls (st.map (gx_v sp ad))) ((st.drop (k + 1)).map (gx_v sp ad)) (gx_Q cl (D, dT, sp, va_A (gx_w dT sp ad h) H.size, h.length, ad) (gx_k0 lv (st.drop (k + 1)) (pc + 3) (bc - kc) (bs - ks) K) (Value.ref (ad a) :: As.map (gx_v sp ad)).toArray) (va_A (gx_w dT sp ad h) H.size) :=
        va_runIN ⟨hx, hb, hml, hown, hts⟩ hMet ⟨va_cnB k hts hG hw rfl rfl (hnl _ _ _ _ hG0) (hts _ hini) hd9 ⟨by show d' + 20 + 1 ≤ R.frames; omega, by show 8 + (nL' + 11) + (64 * d' + 2000) ≤ R.locals; omega⟩, hnm, hts _ hinst⟩ ⟨fun a9 U g mk q => by
              obtain ⟨q0, q1, qP, qK, qD, qG, qo⟩ := q
              exact ⟨q0, q1, qP, va_K.moved (u := U) (U := U.calling g mk a9) (Vm.Alike.refl U.vm) qK, qD, hGo.1 _ _ U (U.calling g mk a9) _ (State.WarmedH.refl U) qG, qo⟩, fun U hU hW => ⟨rfl, by rw [hU], by rw [hU]; exact hh.1, va_K.moved hW.alike hK0, hh.2.1.weaken (fun _ _ _ _ => trivial), gx_G_in hGo hA hh hG0 hU hW, hh.2.2.2.1, hoka⟩⟩ rfl (by rw [List.length_map]; exact hAl) hv.1 (by rw [hst]; simp [gx_v]) (by rw [gx_catsum]; show 2 * 0 + _ ≤ 8; omega) hd ⟨by omega, by omega⟩
      refine gx_after (ret := ret) (len := 3) (Q := Q) (st := st.drop (k + 1)) (a := (Value.ref (ad a) :: As.map (gx_v sp ad)).toArray) (fun T hT9 X => ?_) hA hh hv (fun v hm => hs v (List.mem_of_mem_drop hm)) hc1 hc2 hk1 hk2 hK (fun E h' ad' H' locs' q ce hQ r1 r2 g1 g2 g3 => by
            obtain ⟨hP', hD', hS', hok', hn', had'⟩ := r1
            exact vx_out (fun x hx9 => (hex x hx9).elim) hlk g1 g2 g3 (fun t ht _ => ⟨h', ad', hQ, ⟨by rw [ht]; exact hP', hD', hok', hn', had'⟩, hS'.F ht⟩) hS'.2.2 (Nat.sub_le _ _) (Nat.sub_le _ _))
      obtain ⟨v, st₀, t, T', L, h0, X', hL, e3, e4, hq, go⟩ := hr T hT9 X
      exact Or.inl ⟨v, st₀, t, T', L, h0, X', hL, e3, e4, gx_Q.mono gx_k0.to hq, go⟩
    | _ => simp only [gi_scall, ha] at hT
theorem gs_callU {sel : Nat → Option (Nat × Nat)} {x : MethodName} {owner : String} (hGo : gx_Gok G) (hz : ∀ sp A U H, G sp A U H → va_Nw (.declares ⟨owner, x.name, x.desc⟩) U)
    (hsel : ∀ c m' nL', sel c = some (m', nL') → ∃ (Cn : String) (T9 : u_T) (N9 : Nat) (Ts' Ts'' : List Cond) (cc' : ByteArray) (my' : MethodName) (ret' : Option FieldType), cl[c]? = some (Cn, T9, N9) ∧ zs m' = (cl, tyl, G, Ts', cc', my', nL', ret') ∧ GoodIn Ts Ts' ∧ Ts' = Cond.code my' cc' nL' ret' :: Ts'' ∧ GoodIn Ts [.methodLink my.cls idx x, .sameMethod x.cls owner x.name x.desc, .selects Cn x my', .instanceMethod my', .initialized my'.cls] ∧ nL' ≤ 45 ∧ k + 1 ≤ nL')
    (hd9 : owner ≠ "java/lang/invoke/MethodHandle" ∧ owner ≠ "java/lang/invoke/VarHandle" ∧ (parseMethodDescriptor x.desc).map (fun d => d.parameters.length) = some k) (hd : decode cc pc = .ok (.invokevirtual idx, 3)) : gx_Sn l zs (cl, tyl, G, Ts, cc, my, nL, ret) pc (gi_vpcall sel k (pc + 3)) := by
  rintro ⟨p, l', e, R, s, m, args, below, meth, c⟩ ⟨D, dT, sp, A, n0, ad0⟩ d lv st h bc bs K Q C e1 ⟨⟨hx, hb, hml, hown, hnm0, hret⟩, hts, hK0, hA, hlk, hG0⟩ hex hf hlo hT hK hC ad H locs ls hh hv hs hc1 hc2
  have e1 : l' = l := e1
  subst e1
  have hf : R.frames = d + 20 := hf
  have hlo : R.locals = 64 * d + 2000 := hlo
  cases ha : st[k]? with
  | none => simp only [gi_vpcall, ha] at hT
  | some v0 =>
    cases v0 with
    | ref a =>
      cases hcell : h[a]? with
      | none => simp only [gi_vpcall, ha, hcell] at hT
      | some ce =>
        obtain ⟨t0, x0⟩ | ⟨c0, fs⟩ := ce
        · simp only [gi_vpcall, ha, hcell] at hT
        · cases hs9 : sel c0 with
          | none => simp only [gi_vpcall, ha, hcell, hs9] at hT
          | some q9 =>
            obtain ⟨m', nL'⟩ := q9
            simp only [gi_vpcall, ha, hcell, hs9] at hT
            obtain ⟨Cn, T9, N9, Ts', Ts'', cc', my', ret', hc, ez, hG, hw, hwU, hmax⟩ := hsel c0 m' nL' hs9
            obtain ⟨⟨hsum, hcat, hlen⟩, kc, ks, ⟨hk1, hk2⟩, hcall⟩ := gx_call_inv hT
            obtain ⟨d', e2, hM⟩ := hC m' _ _ _ _ _ hcall
            rw [ez] at hM
            obtain ⟨As, eAs, hAl⟩ := gx_recv hlen ha
            rw [eAs] at hcat hM
            have hoka : ∀ v ∈ Value.ref a :: As, gx_ok h.length v := fun v hm => hs v (List.mem_of_mem_take (List.mem_reverse.mp (by rw [eAs]; exact hm)))
            have hMet := hM (.ref a :: As) (by rw [List.length_cons, hAl]) hcat (by rw [List.length_cons, hAl]; exact hmax.2) ad H.size
            have hst := gx_stack (sp := sp) (ad := ad) (st := st) (n := k + 1)
            rw [eAs] at hst
            have hMet := gx_plain hMet (fun E st t hX => by obtain ⟨h9, ad9, hX, -⟩ := hX; exact hX)
            have hr : va_Run p l' e R s m args below meth c H locs (R.cells - bc) (R.slots - bs) kc ks (F0 m pc ls (st.map (gx_v sp ad))) ((st.drop (k + 1)).map (gx_v sp ad)) (gx_Q cl (D, dT, sp, va_A (gx_w dT sp ad h) H.size, h.length, ad) (gx_k1 lv (st.drop (k + 1)) (pc + 3) (bc - kc) (bs - ks) K) (Value.ref (ad a) :: As.map (gx_v sp ad)).toArray) (va_A (gx_w dT sp ad h) H.size) :=
              va_runU ⟨hx, hb, hml, hown, hts⟩ hMet (va_cwA k hts (fun w h9 => by
                rcases List.mem_append.mp h9 with h9 | h9
                · exact hwU w h9
                · exact hG w h9) hw rfl rfl (hz _ _ _ _ hG0) hd9 ⟨by show d' + 20 + 1 ≤ R.frames; omega, by show 8 + (nL' + 11) + (64 * d' + 2000) ≤ R.locals; omega⟩) ⟨fun a9 U g mk q => by
                    obtain ⟨q0, q1, qP, qK, qD, qG, qo⟩ := q
                    exact ⟨q0, q1, qP, va_K.moved (u := U) (U := U.calling g mk a9) (Vm.Alike.refl U.vm) qK, qD, hGo.1 _ _ U (U.calling g mk a9) _ (State.WarmedH.refl U) qG, qo⟩, va_recv hK0 hh.1 hc (gx_w_at hcell), fun U hU hW => ⟨rfl, by rw [hU], by rw [hU]; exact hh.1, va_K.moved hW.alike hK0, hh.2.1.weaken (fun _ _ _ _ => trivial), gx_G_in hGo hA hh hG0 hU hW, hh.2.2.2.1, hoka⟩⟩ rfl (by rw [List.length_map]; exact hAl) hv.1 (by rw [hst]; simp [gx_v]) (by rw [gx_catsum]; show 2 * 0 + _ ≤ 8; omega) hd ⟨by omega, by omega⟩
            refine gx_after (ret := ret) (len := 3) (Q := Q) (st := st.drop (k + 1)) (a := (Value.ref (ad a) :: As.map (gx_v sp ad)).toArray) (fun T hT9 X => ?_) hA hh hv (fun v hm => hs v (List.mem_of_mem_drop hm)) hc1 hc2 hk1 hk2 hK (fun E h' ad' H' locs' q ce hQ r1 r2 g1 g2 g3 => by
                  obtain ⟨hP', hD', hS', hok', hn', had'⟩ := r1
                  exact vx_out (fun x hx9 => (hex x hx9).elim) hlk g1 g2 g3 (fun t ht _ => ⟨h', ad', hQ, ⟨by rw [ht]; exact hP', hD', hok', hn', had'⟩, hS'.F ht⟩) hS'.2.2 (Nat.sub_le _ _) (Nat.sub_le _ _))
            obtain ⟨v, st₀, t, T', L, h0, X', hL, e3, e4, hq, go⟩ := hr T hT9 X
            exact Or.inl ⟨v, st₀, t, T', L, h0, X', hL, e3, e4, gx_Q.mono gx_k1.to hq, go⟩
    | _ => simp only [gi_vpcall, ha] at hT
theorem gs_callF {sel : Nat → Option (Nat × Nat)} {x : MethodName} {count : Nat} (hGo : gx_Gok G)
    (hsel : ∀ c m' nL', sel c = some (m', nL') → ∃ (Cn : String) (T9 : u_T) (N9 : Nat) (Ts' Ts'' : List Cond) (cc' : ByteArray) (my' : MethodName) (ret' : Option FieldType), cl[c]? = some (Cn, T9, N9) ∧ zs m' = (cl, tyl, G, Ts', cc', my', nL', ret') ∧ GoodIn Ts Ts' ∧ Ts' = Cond.code my' cc' nL' ret' :: Ts'' ∧ GoodIn Ts [.methodLink my.cls idx x, .selects Cn x my', .instanceMethod my', .initialized my'.cls] ∧ (∀ sp A U H, G sp A U H → va_Fw Cn x my' U) ∧ nL' ≤ 45 ∧ k + 1 ≤ nL')
    (hd9 : x.cls ≠ "java/lang/invoke/MethodHandle" ∧ x.cls ≠ "java/lang/invoke/VarHandle" ∧ (parseMethodDescriptor x.desc).map (fun d => d.parameters.length) = some k) (hd : decode cc pc = .ok (.invokeinterface idx count, 5)) : gx_Sn l zs (cl, tyl, G, Ts, cc, my, nL, ret) pc (gi_vpcall sel k (pc + 5)) := by
  rintro ⟨p, l', e, R, s, m, args, below, meth, c⟩ ⟨D, dT, sp, A, n0, ad0⟩ d lv st h bc bs K Q C e1 ⟨⟨hx, hb, hml, hown, hnm0, hret⟩, hts, hK0, hA, hlk, hG0⟩ hex hf hlo hT hK hC ad H locs ls hh hv hs hc1 hc2
  have e1 : l' = l := e1
  subst e1
  have hf : R.frames = d + 20 := hf
  have hlo : R.locals = 64 * d + 2000 := hlo
  cases ha : st[k]? with
  | none => simp only [gi_vpcall, ha] at hT
  | some v0 =>
    cases v0 with
    | ref a =>
      cases hcell : h[a]? with
      | none => simp only [gi_vpcall, ha, hcell] at hT
      | some ce =>
        obtain ⟨t0, x0⟩ | ⟨c0, fs⟩ := ce
        · simp only [gi_vpcall, ha, hcell] at hT
        · cases hs9 : sel c0 with
          | none => simp only [gi_vpcall, ha, hcell, hs9] at hT
          | some q9 =>
            obtain ⟨m', nL'⟩ := q9
            simp only [gi_vpcall, ha, hcell, hs9] at hT
            obtain ⟨Cn, T9, N9, Ts', Ts'', cc', my', ret', hc, ez, hG, hw, hwU, hFw, hmax⟩ := hsel c0 m' nL' hs9
            obtain ⟨⟨hsum, hcat, hlen⟩, kc, ks, ⟨hk1, hk2⟩, hcall⟩ := gx_call_inv hT
            obtain ⟨d', e2, hM⟩ := hC m' _ _ _ _ _ hcall
            rw [ez] at hM
            obtain ⟨As, eAs, hAl⟩ := gx_recv hlen ha
            rw [eAs] at hcat hM
            have hoka : ∀ v ∈ Value.ref a :: As, gx_ok h.length v := fun v hm => hs v (List.mem_of_mem_take (List.mem_reverse.mp (by rw [eAs]; exact hm)))
            have hMet := hM (.ref a :: As) (by rw [List.length_cons, hAl]) hcat (by rw [List.length_cons, hAl]; exact hmax.2) ad H.size
            have hst := gx_stack (sp := sp) (ad := ad) (st := st) (n := k + 1)
            rw [eAs] at hst
            have hMet := gx_plain hMet (fun E st t hX => by obtain ⟨h9, ad9, hX, -⟩ := hX; exact hX)
            have hr : va_Run5 p l' e R s m args below meth c H locs (R.cells - bc) (R.slots - bs) kc ks (F0 m pc ls (st.map (gx_v sp ad))) ((st.drop (k + 1)).map (gx_v sp ad)) (gx_Q cl (D, dT, sp, va_A (gx_w dT sp ad h) H.size, h.length, ad) (gx_k1 lv (st.drop (k + 1)) (pc + 5) (bc - kc) (bs - ks) K) (Value.ref (ad a) :: As.map (gx_v sp ad)).toArray) (va_A (gx_w dT sp ad h) H.size) :=
              va_runF (hK0.1 c0 _ hc).2 ⟨hx, hb, hml, hown, hts⟩ hMet (va_cwF k hts (fun w h9 => by
                rcases List.mem_append.mp h9 with h9 | h9
                · exact hwU w h9
                · exact hG w h9) hw rfl rfl (hFw _ _ _ _ hG0) hd9 ⟨by show d' + 20 + 1 ≤ R.frames; omega, by show 8 + (nL' + 11) + (64 * d' + 2000) ≤ R.locals; omega⟩) ⟨fun a9 U g mk q => by
                    obtain ⟨q0, q1, qP, qK, qD, qG, qo⟩ := q
                    exact ⟨q0, q1, qP, va_K.moved (u := U) (U := U.calling g mk a9) (Vm.Alike.refl U.vm) qK, qD, hGo.1 _ _ U (U.calling g mk a9) _ (State.WarmedH.refl U) qG, qo⟩, va_recv hK0 hh.1 hc (gx_w_at hcell), fun U hU hW => ⟨rfl, by rw [hU], by rw [hU]; exact hh.1, va_K.moved hW.alike hK0, hh.2.1.weaken (fun _ _ _ _ => trivial), gx_G_in hGo hA hh hG0 hU hW, hh.2.2.2.1, hoka⟩⟩ rfl (by rw [List.length_map]; exact hAl) hv.1 (by rw [hst]; simp [gx_v]) (by rw [gx_catsum]; show 2 * 0 + _ ≤ 8; omega) hd ⟨by omega, by omega⟩
            refine gx_after (ret := ret) (len := 5) (Q := Q) (st := st.drop (k + 1)) (a := (Value.ref (ad a) :: As.map (gx_v sp ad)).toArray) (fun T hT9 X => ?_) hA hh hv (fun v hm => hs v (List.mem_of_mem_drop hm)) hc1 hc2 hk1 hk2 hK (fun E h' ad' H' locs' q ce hQ r1 r2 g1 g2 g3 => by
                  obtain ⟨hP', hD', hS', hok', hn', had'⟩ := r1
                  exact vx_out (fun x hx9 => (hex x hx9).elim) hlk g1 g2 g3 (fun t ht _ => ⟨h', ad', hQ, ⟨by rw [ht]; exact hP', hD', hok', hn', had'⟩, hS'.F ht⟩) hS'.2.2 (Nat.sub_le _ _) (Nat.sub_le _ _))
            obtain ⟨v, st₀, t, T', L, h0, X', hL, e3, e4, hq, go⟩ := hr T hT9 X
            exact Or.inl ⟨v, st₀, t, T', L, h0, X', hL, e3, e4, gx_Q.mono gx_k1.to hq, go⟩
    | _ => simp only [gi_vpcall, ha] at hT
end GXN
end
section
/-! throw, Math.max, arraycopy, checkcast, getstatic, getfield of a nest mate. Written by wip/tools/mach4.py. -/
section GXO
variable {cl : List vw_C} {tyl : List FieldType} {Ts : List Cond} {G : (Nat → Nat) → (Nat → Prop) → State → Heap → Prop} {cc : ByteArray} {my : MethodName} {nL : Nat} {ret : Option FieldType} {pc : Nat} {l : Launch} {zs : Nat → gx_M} {idx : Nat}
theorem gs_thr {cls : String} {names : List String} {ik ic : Nat} (hl : l.stackTraces = false) (hcls : Bundle.fit cls = true) (hnames : ∀ n ∈ names, Bundle.fit n = true) (hk : Cond.classLink my.cls ik cls ∈ Ts) (hini : Cond.initialized cls ∈ Ts) (hat : ∀ w ∈ vx_at0 my.cls ic cls names, w ∈ Ts ∨ (w.onTables = true ∧ ∀ sp A U H, G sp A U H → va_Nw w U))
    (hgood : ∀ w ∈ Cond.classLink my.cls ik cls :: Cond.initialized cls :: vx_at0 my.cls ic cls names, vx_ot w = true) (hgU : ∀ sp A U H, G sp A U H → vx_Zq Bundle.tN "UNASSIGNED_STACK" Bundle.steD A U H ∧ vx_Zq Bundle.tN "SUPPRESSED_SENTINEL" Bundle.listD A U H) (hnn : names.length ≤ 10)
    (d0 : decode cc pc = .ok (.new ik, 3)) (d3 : decode cc (pc + 3) = .ok (.dup, 1)) (d4 : decode cc (pc + 4) = .ok (.invokespecial ic, 3)) (d7 : decode cc (pc + 7) = .ok (.athrow, 1)) : gx_Sn l zs (cl, tyl, G, Ts, cc, my, nL, ret) pc (gi_thr cls) := by
  rintro ⟨p, l', e, R, s, m, args, below, meth, c⟩ ⟨D, dT, sp, A, n0, ad0⟩ d lv st h bc bs K Q C e1 ⟨⟨hx, hb, hml, hown, hnm0, hret⟩, hts, hK0, hA, hlk, hG0⟩ hex hf hlo hT hK hC ad H locs ls hh hv hs hc1 hc2
  have e1 : l' = l := e1
  subst e1
  have hf : R.frames = d + 20 := hf
  have hlo : R.locals = 64 * d + 2000 := hlo
  cases hb1 : Nat.ble (st.map Value.category).sum 8 with
  | false => simp only [gi_thr, hb1] at hT
  | true =>
    simp only [gi_thr, hb1] at hT
    have hsum := Nat.le_of_ble_eq_true hb1
    obtain ⟨⟨hb2, hb3⟩, hQ⟩ := hT
    obtain ⟨hP, hD, hS, hok, hn0, had⟩ := hh
    refine vx_throw0 hx hb hl hown hcls hnames (hts _ hk) (hts _ hini) (fun w hw => ?_) hgood (hgU _ _ _ _ hG0).1 (hgU _ _ _ _ hG0).2 hS (hv.1.trans hml.symm) d0 d3 d4 d7 (fun x hx9 => (hex x hx9).elim) (by omega) (by rw [gx_catsum]; omega) (by omega) (by omega) hlk (fun t hal hsz hq => ?_) hS.2.2 (by omega) (by omega)
    · rcases hat w hw with h9 | ⟨h9, h8⟩
      · exact hts w h9
      · exact va_Nw.use h9 (h8 _ _ _ _ hG0)
    · exact ⟨h, ad, hQ, ⟨hP.kept (fun k q hk9 => hq q.1 (hP k q hk9).lt), hD, hok, hn0, had⟩, Nat.le_trans hS.1 hsz, fun q h1 h2 => (hq q (Nat.lt_of_lt_of_le h1 hS.1)).trans (hS.2.1 q h1 h2)⟩
theorem gs_max (hlink : Cond.methodLink my.cls idx Lib.Math.max.name ∈ Ts) (hstat : Cond.static Lib.Math.max.name ∈ Ts) (hini : Cond.initialized "java/lang/Math" ∈ Ts) (hcode : Cond.code Lib.Math.max.name Lib.Math.max.code 2 (some .int) ∈ Ts) (hd : decode cc pc = .ok (.invokestatic idx, 3)) : gx_Sn l zs (cl, tyl, G, Ts, cc, my, nL, ret) pc (gi_max (pc + 3)) := by
  rintro ⟨p, l', e, R, s, m, args, below, meth, c⟩ ⟨D, dT, sp, A, n0, ad0⟩ d lv st h bc bs K Q C e1 ⟨⟨hx, hb, hml, hown, hnm0, hret⟩, hts, hK0, hA, hlk, hG0⟩ hex hf hlo hT hK hC ad H locs ls hh hv hs hc1 hc2
  have e1 : l' = l := e1
  subst e1
  have hf : R.frames = d + 20 := hf
  have hlo : R.locals = 64 * d + 2000 := hlo
  rcases st with _ | ⟨v, st⟩
  · exact False.elim hT
  cases v with
  | int b =>
    rcases st with _ | ⟨v, st⟩
    · exact False.elim hT
    cases v with
    | int a =>
      cases hb1 : Nat.ble (st.map Value.category).sum 8 with
      | false => simp only [gi_max, hb1] at hT
      | true =>
        simp only [gi_max, hb1] at hT
        have hsum := Nat.le_of_ble_eq_true hb1
        exact va_mmax hx hb (hml.trans hv.1.symm) hown (hts _ hlink) (hts _ hstat) (hts _ hini) (hts _ hcode) (by omega) (by rw [gx_catsum]; omega) (Nat.sub_le _ _) (Nat.sub_le _ _) hd (hK _ hT ad H locs ls hh hv (fun w hm => by
          rcases List.mem_cons.mp hm with e1 | e1
          · rw [e1]; trivial
          · exact hs w (List.mem_cons_of_mem _ (List.mem_cons_of_mem _ e1))) hc1 hc2)
    | _ => exact False.elim hT
  | _ => exact False.elim hT
theorem gs_copy {t : Nat} {ty : FieldType} (ht : tyl[t]? = some ty) (hprim : refKind ty = false) (hlink : Cond.methodLink my.cls idx arraycopyName ∈ Ts) (hnat : Cond.native arraycopyName ∈ Ts) (hstat : Cond.static arraycopyName ∈ Ts) (hini : Cond.initialized "java/lang/System" ∈ Ts) (hd : decode cc pc = .ok (.invokestatic idx, 3)) : gx_Sn l zs (cl, tyl, G, Ts, cc, my, nL, ret) pc (gi_copy t (fun x => fits ty (.int x) = true) (pc + 3)) := by
  rintro ⟨p, l', e, R, s, m, args, below, meth, c⟩ ⟨D, dT, sp, A, n0, ad0⟩ d lv st h bc bs K Q C e1 ⟨⟨hx, hb, hml, hown, hnm0, hret⟩, hts, hK0, hA, hlk, hG0⟩ hex hf hlo hT hK hC ad H locs ls hh hv hs hc1 hc2
  have e1 : l' = l := e1
  subst e1
  have hf : R.frames = d + 20 := hf
  have hlo : R.locals = 64 * d + 2000 := hlo
  rcases st with _ | ⟨v, st⟩
  · exact False.elim hT
  cases v with
  | int n =>
    rcases st with _ | ⟨v, st⟩
    · exact False.elim hT
    cases v with
    | int dp =>
      rcases st with _ | ⟨v, st⟩
      · exact False.elim hT
      cases v with
      | ref a1 =>
        rcases st with _ | ⟨v, st⟩
        · exact False.elim hT
        cases v with
        | int spos =>
          rcases st with _ | ⟨v, st⟩
          · exact False.elim hT
          cases v with
          | ref a0 =>
            cases hc0 : h[a0]? with
            | none => simp only [gi_copy, hc0] at hT
            | some ce0 =>
              cases hcc1 : h[a1]? with
              | none => simp only [gi_copy, hc0, hcc1] at hT
              | some ce1 =>
                obtain ⟨t0, l0, f | x0⟩ | ⟨c0, fs⟩ := ce0
                · obtain ⟨t1, l1, g | x1⟩ | ⟨c1, fs⟩ := ce1
                  · cases hb0 : Nat.beq t0 t with
                    | false => simp only [gi_copy, hc0, hcc1, hb0] at hT
                    | true =>
                      cases hb1 : Nat.beq t1 t with
                      | false => simp only [gi_copy, hc0, hcc1, hb0, hb1] at hT
                      | true =>
                        cases hb2 : Nat.ble (st.map Value.category).sum 8 with
                        | false => simp only [gi_copy, hc0, hcc1, hb0, hb1, hb2] at hT
                        | true =>
                          simp only [gi_copy, hc0, hcc1, hb0, hb1, hb2] at hT
                          have hsum := Nat.le_of_ble_eq_true hb2
                          have e0 : t0 = t := Nat.eq_of_beq_eq_true hb0
                          have e1 : t1 = t := Nat.eq_of_beq_eq_true hb1
                          subst e0
                          subst e1
                          obtain ⟨⟨⟨g1, g2, g3⟩, g4, g5, g6⟩, hT⟩ := hT
                          obtain ⟨hP, hD, hS, hok, hn0, had⟩ := id hh
                          have hnw : nativeFrameWords "java/lang/System" "arraycopy" 5 ≤ 1000 := by decide
                          refine va_copyi hx hb (hml.trans hv.1.symm) hown (hts _ hlink) (hts _ hnat) (hts _ hstat) (hts _ hini) hK0 hP hD hS a0 a1 t1 t1 (gx_w_at hc0) (gx_w_at hcc1) (gx_ty_at ht) (gx_ty_at ht) hprim g1 g2 g3 g4 g5 g6 (by omega) (by rw [gx_catsum]; omega) hd (fun H1 locs1 hP1 hD1 hS1 => ?_)
                          have ew := gx_w_set dT sp ad h a1 (.inl (t1, l1, .inl (va_cpy f g spos.toNatClampNeg dp.toNatClampNeg n.toNatClampNeg)))
                          have el : (h.set a1 (.inl (t1, l1, .inl (va_cpy f g spos.toNatClampNeg dp.toNatClampNeg n.toNatClampNeg)))).length = h.length := List.length_set
                          exact hK _ hT ad H1 locs1 ls ⟨by rw [← ew]; exact hP1, by rw [← ew]; exact hD1, hS1, hok.set trivial, by rw [el]; exact hn0, had⟩ (by rw [el]; exact hv) (by rw [el]; exact (fun w e1 => hs w (List.mem_cons_of_mem _ (List.mem_cons_of_mem _ (List.mem_cons_of_mem _ (List.mem_cons_of_mem _ (List.mem_cons_of_mem _ e1))))))) hc1 hc2
                  · simp only [gi_copy, hc0, hcc1] at hT
                  · simp only [gi_copy, hc0, hcc1] at hT
                · simp only [gi_copy, hc0, hcc1] at hT
                · simp only [gi_copy, hc0, hcc1] at hT
          | _ => exact False.elim hT
        | _ => exact False.elim hT
      | _ => exact False.elim hT
    | _ => exact False.elim hT
  | _ => exact False.elim hT
theorem gs_ccast {nm : String} {cs : List Nat} (hlink : Cond.classLink my.cls idx nm ∈ Ts) (hca : ∀ ci ∈ cs, ∃ r : vw_C, cl[ci]? = some r ∧ ∀ sp A U H, G sp A U H → va_Nw (.castable r.1 nm) U) (hd : decode cc pc = .ok (.checkcast idx, 3)) : gx_s1 (cl, tyl, G, Ts, cc, my, nL, ret) pc (gi_cast cs (pc + 3)) := by
  rintro ⟨p, l, e, R, s, m, args, below, meth, c⟩ ⟨D, dT, sp, A, n0, ad0⟩ Fin lv st h bc bs K Q C ⟨⟨hx, hb, hml, hown, hnm0, hret⟩, hts, hK0, hA, hlk, hG⟩ hT hK ad H locs ls hh hv hs hc1 hc2
  rcases st with _ | ⟨v, st⟩
  · exact False.elim hT
  cases v with
  | null => exact lv_castN hx hb hd (hK _ hT ad H locs ls hh hv hs hc1 hc2)
  | ref a =>
    obtain ⟨⟨c9, fs, hcell, hcs⟩, hT⟩ := hT
    obtain ⟨r, hr, hg9⟩ := hca c9 hcs
    exact va_castY hx hb hown (hts _ hlink) (hg9 _ _ _ _ hG) (va_recv hK0 hh.1 hr (gx_w_at hcell)) hd (hK _ hT ad H locs ls hh hv hs hc1 hc2)
  | _ => exact False.elim hT
theorem gs_getNw {ci k N : Nat} {Cn host : String} {T : u_T} (hc : cl[ci]? = some (Cn, T, N)) (hin : ∀ w ∈ u_ws Cn T N, w ∈ Ts) (hk : k < N) (hnl : ∀ sp A U H, G sp A U H → va_Nw (.fieldLinkNest my.cls idx (T k).1 (T k).2.1 (T k).2.2.1 host) U) (hd : decode cc pc = .ok (.getfield idx, 3)) : gx_s1 (cl, tyl, G, Ts, cc, my, nL, ret) pc (gi_get ci k (pc + 3)) := by
  rintro ⟨p, l, e, R, s, m, args, below, meth, c⟩ ⟨D, dT, sp, A, n0, ad0⟩ Fin lv st h bc bs K Q C ⟨⟨hx, hb, hml, hown, hnm0, hret⟩, hts, hK0, hA, hlk, hG⟩ hT hK ad H locs ls hh hv hs hc1 hc2
  rcases st with _ | ⟨v0, st⟩
  · exact False.elim hT
  cases v0 with
  | ref a =>
    cases hcell : h[a]? with
    | none => simp only [gi_get, hcell] at hT
    | some ce =>
      obtain ⟨t0, x0⟩ | ⟨c0, fs⟩ := ce
      · simp only [gi_get, hcell] at hT
      · cases hb1 : Nat.beq c0 ci with
        | false => simp only [gi_get, hcell, hb1] at hT
        | true =>
          cases hf : fs[k]? with
          | none => simp only [gi_get, hcell, hb1, hf] at hT
          | some v =>
            simp only [gi_get, hcell, hb1, hf] at hT
            have e0 : c0 = ci := Nat.eq_of_beq_eq_true hb1
            subst e0
            obtain ⟨hP, hD, hS, hok, hn0, had⟩ := id hh
            have hvok : gx_ok h.length v := hok a _ hcell v (List.mem_of_getElem? hf)
            exact va_getN hx hb hts hin hown hK0 hP a (gx_w_at hcell) hc k hk (va_Nw.use rfl (hnl _ _ _ _ hG)) (fun _ q => q) (v := gx_v sp ad v) (by rw [List.getElem?_map, hf]; rfl) hd (hK _ hT ad H locs ls hh hv (fun w hm => by
          rcases List.mem_cons.mp hm with e1 | e1
          · rw [e1]; exact hvok
          · exact hs w (List.mem_cons_of_mem _ e1)) hc1 hc2)
  | _ => exact False.elim hT
end GXO
end
