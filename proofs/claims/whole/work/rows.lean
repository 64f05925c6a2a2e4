section
-- ===== PART A: goes FIRST, ahead of the names: the tables' words, and 'selects' of the private methods out of them =====
/-- a private method of a class that the tables say can be made, by its rows of tables_1 -/
def lw_okq (q : MethodName × Nat) : Prop := (q.1.cls ≠ "java/lang/invoke/MethodHandle" ∧ q.1.cls ≠ "java/lang/invoke/VarHandle") ∧ Cond.instantiable q.1.cls q.2 ∈ tables_1 ∧ Cond.privateMethod q.1 ∈ tables_1 ∧ Cond.instanceMethod q.1 ∈ tables_1
theorem lw_p0 : lw_okq (⟨"java/lang/Throwable", "fillInStackTrace", "(I)Ljava/lang/Throwable;"⟩, 6) := ⟨⟨by decide +kernel, by decide +kernel⟩, List.mem_of_getElem? (i := 241) (by decide +kernel), List.mem_of_getElem? (i := 239) (by decide +kernel), List.mem_of_getElem? (i := 240) (by decide +kernel)⟩
theorem lw_p1 : lw_okq (⟨"GrammarMachine$Reader", "next", "()C"⟩, 3) := ⟨⟨by decide +kernel, by decide +kernel⟩, List.mem_of_getElem? (i := 39) (by decide +kernel), List.mem_of_getElem? (i := 280) (by decide +kernel), List.mem_of_getElem? (i := 281) (by decide +kernel)⟩
theorem lw_p2 : lw_okq (⟨"GrammarMachine$Reader", "pass", "(C)V"⟩, 3) := ⟨⟨by decide +kernel, by decide +kernel⟩, List.mem_of_getElem? (i := 39) (by decide +kernel), List.mem_of_getElem? (i := 289) (by decide +kernel), List.mem_of_getElem? (i := 290) (by decide +kernel)⟩
theorem lw_p3 : lw_okq (⟨"GrammarMachine$Reader", "passes", "(C)Z"⟩, 3) := ⟨⟨by decide +kernel, by decide +kernel⟩, List.mem_of_getElem? (i := 39) (by decide +kernel), List.mem_of_getElem? (i := 293) (by decide +kernel), List.mem_of_getElem? (i := 294) (by decide +kernel)⟩
theorem lw_p4 : lw_okq (⟨"GrammarMachine$Reader", "readChoice", "(I)LGrammarMachine$Pattern;"⟩, 3) := ⟨⟨by decide +kernel, by decide +kernel⟩, List.mem_of_getElem? (i := 39) (by decide +kernel), List.mem_of_getElem? (i := 297) (by decide +kernel), List.mem_of_getElem? (i := 298) (by decide +kernel)⟩
theorem lw_p5 : lw_okq (⟨"GrammarMachine$Reader", "readSequence", "(I)LGrammarMachine$Pattern;"⟩, 3) := ⟨⟨by decide +kernel, by decide +kernel⟩, List.mem_of_getElem? (i := 39) (by decide +kernel), List.mem_of_getElem? (i := 301) (by decide +kernel), List.mem_of_getElem? (i := 302) (by decide +kernel)⟩
theorem lw_p6 : lw_okq (⟨"GrammarMachine$Reader", "readItem", "(I)LGrammarMachine$Pattern;"⟩, 3) := ⟨⟨by decide +kernel, by decide +kernel⟩, List.mem_of_getElem? (i := 39) (by decide +kernel), List.mem_of_getElem? (i := 305) (by decide +kernel), List.mem_of_getElem? (i := 306) (by decide +kernel)⟩
theorem lw_p7 : lw_okq (⟨"GrammarMachine$Reader", "readPiece", "(I)LGrammarMachine$Pattern;"⟩, 3) := ⟨⟨by decide +kernel, by decide +kernel⟩, List.mem_of_getElem? (i := 39) (by decide +kernel), List.mem_of_getElem? (i := 309) (by decide +kernel), List.mem_of_getElem? (i := 310) (by decide +kernel)⟩
theorem lw_p8 : lw_okq (⟨"GrammarMachine$Reader", "readAtom", "(I)LGrammarMachine$Pattern;"⟩, 3) := ⟨⟨by decide +kernel, by decide +kernel⟩, List.mem_of_getElem? (i := 39) (by decide +kernel), List.mem_of_getElem? (i := 313) (by decide +kernel), List.mem_of_getElem? (i := 314) (by decide +kernel)⟩
theorem lw_p9 : lw_okq (⟨"GrammarMachine$Reader", "readBracket", "(I)LGrammarMachine$Pattern;"⟩, 3) := ⟨⟨by decide +kernel, by decide +kernel⟩, List.mem_of_getElem? (i := 39) (by decide +kernel), List.mem_of_getElem? (i := 317) (by decide +kernel), List.mem_of_getElem? (i := 318) (by decide +kernel)⟩
theorem lw_p10 : lw_okq (⟨"GrammarMachine$Reader", "readRange", "()LGrammarMachine$Pattern;"⟩, 3) := ⟨⟨by decide +kernel, by decide +kernel⟩, List.mem_of_getElem? (i := 39) (by decide +kernel), List.mem_of_getElem? (i := 334) (by decide +kernel), List.mem_of_getElem? (i := 335) (by decide +kernel)⟩
theorem lw_p11 : lw_okq (⟨"GrammarMachine$Reader", "readPlain", "()C"⟩, 3) := ⟨⟨by decide +kernel, by decide +kernel⟩, List.mem_of_getElem? (i := 39) (by decide +kernel), List.mem_of_getElem? (i := 338) (by decide +kernel), List.mem_of_getElem? (i := 339) (by decide +kernel)⟩
theorem lw_p12 : lw_okq (⟨"java/util/ArrayList", "add", "(Ljava/lang/Object;[Ljava/lang/Object;I)V"⟩, 3) := ⟨⟨by decide +kernel, by decide +kernel⟩, List.mem_of_getElem? (i := 406) (by decide +kernel), List.mem_of_getElem? (i := 450) (by decide +kernel), List.mem_of_getElem? (i := 451) (by decide +kernel)⟩
theorem lw_p13 : lw_okq (⟨"java/util/ArrayList", "grow", "()[Ljava/lang/Object;"⟩, 3) := ⟨⟨by decide +kernel, by decide +kernel⟩, List.mem_of_getElem? (i := 406) (by decide +kernel), List.mem_of_getElem? (i := 454) (by decide +kernel), List.mem_of_getElem? (i := 455) (by decide +kernel)⟩
theorem lw_p14 : lw_okq (⟨"java/util/ArrayList", "grow", "(I)[Ljava/lang/Object;"⟩, 3) := ⟨⟨by decide +kernel, by decide +kernel⟩, List.mem_of_getElem? (i := 406) (by decide +kernel), List.mem_of_getElem? (i := 458) (by decide +kernel), List.mem_of_getElem? (i := 459) (by decide +kernel)⟩
theorem lw_p15 : lw_okq (⟨"GrammarMachine$Grammar", "neededBy", "(I)I"⟩, 4) := ⟨⟨by decide +kernel, by decide +kernel⟩, List.mem_of_getElem? (i := 56) (by decide +kernel), List.mem_of_getElem? (i := 579) (by decide +kernel), List.mem_of_getElem? (i := 580) (by decide +kernel)⟩
def lw_privs_1 : List (MethodName × Nat) := [(⟨"java/lang/Throwable", "fillInStackTrace", "(I)Ljava/lang/Throwable;"⟩, 6), (⟨"GrammarMachine$Reader", "next", "()C"⟩, 3), (⟨"GrammarMachine$Reader", "pass", "(C)V"⟩, 3), (⟨"GrammarMachine$Reader", "passes", "(C)Z"⟩, 3), (⟨"GrammarMachine$Reader", "readChoice", "(I)LGrammarMachine$Pattern;"⟩, 3), (⟨"GrammarMachine$Reader", "readSequence", "(I)LGrammarMachine$Pattern;"⟩, 3), (⟨"GrammarMachine$Reader", "readItem", "(I)LGrammarMachine$Pattern;"⟩, 3), (⟨"GrammarMachine$Reader", "readPiece", "(I)LGrammarMachine$Pattern;"⟩, 3), (⟨"GrammarMachine$Reader", "readAtom", "(I)LGrammarMachine$Pattern;"⟩, 3), (⟨"GrammarMachine$Reader", "readBracket", "(I)LGrammarMachine$Pattern;"⟩, 3), (⟨"GrammarMachine$Reader", "readRange", "()LGrammarMachine$Pattern;"⟩, 3), (⟨"GrammarMachine$Reader", "readPlain", "()C"⟩, 3), (⟨"java/util/ArrayList", "add", "(Ljava/lang/Object;[Ljava/lang/Object;I)V"⟩, 3), (⟨"java/util/ArrayList", "grow", "()[Ljava/lang/Object;"⟩, 3), (⟨"java/util/ArrayList", "grow", "(I)[Ljava/lang/Object;"⟩, 3), (⟨"GrammarMachine$Grammar", "neededBy", "(I)I"⟩, 4)]
theorem lw_r1 : ∀ q ∈ lw_privs_1, lw_okq q := List.forall_mem_cons.mpr ⟨lw_p0, List.forall_mem_cons.mpr ⟨lw_p1, List.forall_mem_cons.mpr ⟨lw_p2, List.forall_mem_cons.mpr ⟨lw_p3, List.forall_mem_cons.mpr ⟨lw_p4, List.forall_mem_cons.mpr ⟨lw_p5, List.forall_mem_cons.mpr ⟨lw_p6, List.forall_mem_cons.mpr ⟨lw_p7, List.forall_mem_cons.mpr ⟨lw_p8, List.forall_mem_cons.mpr ⟨lw_p9, List.forall_mem_cons.mpr ⟨lw_p10, List.forall_mem_cons.mpr ⟨lw_p11, List.forall_mem_cons.mpr ⟨lw_p12, List.forall_mem_cons.mpr ⟨lw_p13, List.forall_mem_cons.mpr ⟨lw_p14, List.forall_mem_cons.mpr ⟨lw_p15, fun _ h => absurd h List.not_mem_nil⟩⟩⟩⟩⟩⟩⟩⟩⟩⟩⟩⟩⟩⟩⟩⟩
theorem lw_p16 : lw_okq (⟨"GrammarMachine$Grammar", "namesIn", "(I)I"⟩, 4) := ⟨⟨by decide +kernel, by decide +kernel⟩, List.mem_of_getElem? (i := 56) (by decide +kernel), List.mem_of_getElem? (i := 586) (by decide +kernel), List.mem_of_getElem? (i := 587) (by decide +kernel)⟩
theorem lw_p17 : lw_okq (⟨"GrammarMachine$Grammar", "allDefined", "(I)Z"⟩, 4) := ⟨⟨by decide +kernel, by decide +kernel⟩, List.mem_of_getElem? (i := 56) (by decide +kernel), List.mem_of_getElem? (i := 590) (by decide +kernel), List.mem_of_getElem? (i := 591) (by decide +kernel)⟩
theorem lw_p18 : lw_okq (⟨"GrammarMachine$Grammar", "emptyableRules", "()I"⟩, 4) := ⟨⟨by decide +kernel, by decide +kernel⟩, List.mem_of_getElem? (i := 56) (by decide +kernel), List.mem_of_getElem? (i := 594) (by decide +kernel), List.mem_of_getElem? (i := 595) (by decide +kernel)⟩
theorem lw_p19 : lw_okq (⟨"GrammarMachine$Grammar", "arrange", "(II)Z"⟩, 4) := ⟨⟨by decide +kernel, by decide +kernel⟩, List.mem_of_getElem? (i := 56) (by decide +kernel), List.mem_of_getElem? (i := 661) (by decide +kernel), List.mem_of_getElem? (i := 662) (by decide +kernel)⟩
theorem lw_p20 : lw_okq (⟨"GrammarMachine$Grammar", "someGoesRound", "(II)Z"⟩, 4) := ⟨⟨by decide +kernel, by decide +kernel⟩, List.mem_of_getElem? (i := 56) (by decide +kernel), List.mem_of_getElem? (i := 694) (by decide +kernel), List.mem_of_getElem? (i := 695) (by decide +kernel)⟩
theorem lw_p21 : lw_okq (⟨"GrammarMachine", "refuseUnlessSound", "(I)V"⟩, 8) := ⟨⟨by decide +kernel, by decide +kernel⟩, List.mem_of_getElem? (i := 31) (by decide +kernel), List.mem_of_getElem? (i := 735) (by decide +kernel), List.mem_of_getElem? (i := 736) (by decide +kernel)⟩
theorem lw_p22 : lw_okq (⟨"GrammarMachine$Chart", "fillRow", "(ILGrammarMachine$Pattern;I)V"⟩, 9) := ⟨⟨by decide +kernel, by decide +kernel⟩, List.mem_of_getElem? (i := 81) (by decide +kernel), List.mem_of_getElem? (i := 762) (by decide +kernel), List.mem_of_getElem? (i := 763) (by decide +kernel)⟩
theorem lw_p23 : lw_okq (⟨"GrammarMachineModel", "read", "()Z"⟩, 35) := ⟨⟨by decide +kernel, by decide +kernel⟩, List.mem_of_getElem? (i := 856) (by decide +kernel), List.mem_of_getElem? (i := 992) (by decide +kernel), List.mem_of_getElem? (i := 993) (by decide +kernel)⟩
theorem lw_p24 : lw_okq (⟨"GrammarMachineModel", "look", "(I)I"⟩, 35) := ⟨⟨by decide +kernel, by decide +kernel⟩, List.mem_of_getElem? (i := 856) (by decide +kernel), List.mem_of_getElem? (i := 996) (by decide +kernel), List.mem_of_getElem? (i := 997) (by decide +kernel)⟩
theorem lw_p25 : lw_okq (⟨"GrammarMachineModel", "goesIn", "(I)V"⟩, 35) := ⟨⟨by decide +kernel, by decide +kernel⟩, List.mem_of_getElem? (i := 856) (by decide +kernel), List.mem_of_getElem? (i := 1000) (by decide +kernel), List.mem_of_getElem? (i := 1001) (by decide +kernel)⟩
theorem lw_p26 : lw_okq (⟨"GrammarMachineModel", "make", "(II)I"⟩, 35) := ⟨⟨by decide +kernel, by decide +kernel⟩, List.mem_of_getElem? (i := 856) (by decide +kernel), List.mem_of_getElem? (i := 1004) (by decide +kernel), List.mem_of_getElem? (i := 1005) (by decide +kernel)⟩
theorem lw_p27 : lw_okq (⟨"GrammarMachineModel", "newSequence", "()V"⟩, 35) := ⟨⟨by decide +kernel, by decide +kernel⟩, List.mem_of_getElem? (i := 856) (by decide +kernel), List.mem_of_getElem? (i := 1008) (by decide +kernel), List.mem_of_getElem? (i := 1009) (by decide +kernel)⟩
theorem lw_p28 : lw_okq (⟨"GrammarMachineModel", "append", "(II)V"⟩, 35) := ⟨⟨by decide +kernel, by decide +kernel⟩, List.mem_of_getElem? (i := 856) (by decide +kernel), List.mem_of_getElem? (i := 1012) (by decide +kernel), List.mem_of_getElem? (i := 1013) (by decide +kernel)⟩
theorem lw_p29 : lw_okq (⟨"GrammarMachineModel", "readItem", "()V"⟩, 35) := ⟨⟨by decide +kernel, by decide +kernel⟩, List.mem_of_getElem? (i := 856) (by decide +kernel), List.mem_of_getElem? (i := 1016) (by decide +kernel), List.mem_of_getElem? (i := 1017) (by decide +kernel)⟩
theorem lw_p30 : lw_okq (⟨"GrammarMachineModel", "atom", "()I"⟩, 35) := ⟨⟨by decide +kernel, by decide +kernel⟩, List.mem_of_getElem? (i := 856) (by decide +kernel), List.mem_of_getElem? (i := 1020) (by decide +kernel), List.mem_of_getElem? (i := 1021) (by decide +kernel)⟩
theorem lw_p31 : lw_okq (⟨"GrammarMachineModel", "character", "(II)I"⟩, 35) := ⟨⟨by decide +kernel, by decide +kernel⟩, List.mem_of_getElem? (i := 856) (by decide +kernel), List.mem_of_getElem? (i := 1027) (by decide +kernel), List.mem_of_getElem? (i := 1028) (by decide +kernel)⟩
def lw_privs_2 : List (MethodName × Nat) := [(⟨"GrammarMachine$Grammar", "namesIn", "(I)I"⟩, 4), (⟨"GrammarMachine$Grammar", "allDefined", "(I)Z"⟩, 4), (⟨"GrammarMachine$Grammar", "emptyableRules", "()I"⟩, 4), (⟨"GrammarMachine$Grammar", "arrange", "(II)Z"⟩, 4), (⟨"GrammarMachine$Grammar", "someGoesRound", "(II)Z"⟩, 4), (⟨"GrammarMachine", "refuseUnlessSound", "(I)V"⟩, 8), (⟨"GrammarMachine$Chart", "fillRow", "(ILGrammarMachine$Pattern;I)V"⟩, 9), (⟨"GrammarMachineModel", "read", "()Z"⟩, 35), (⟨"GrammarMachineModel", "look", "(I)I"⟩, 35), (⟨"GrammarMachineModel", "goesIn", "(I)V"⟩, 35), (⟨"GrammarMachineModel", "make", "(II)I"⟩, 35), (⟨"GrammarMachineModel", "newSequence", "()V"⟩, 35), (⟨"GrammarMachineModel", "append", "(II)V"⟩, 35), (⟨"GrammarMachineModel", "readItem", "()V"⟩, 35), (⟨"GrammarMachineModel", "atom", "()I"⟩, 35), (⟨"GrammarMachineModel", "character", "(II)I"⟩, 35)]
theorem lw_r2 : ∀ q ∈ lw_privs_2, lw_okq q := List.forall_mem_cons.mpr ⟨lw_p16, List.forall_mem_cons.mpr ⟨lw_p17, List.forall_mem_cons.mpr ⟨lw_p18, List.forall_mem_cons.mpr ⟨lw_p19, List.forall_mem_cons.mpr ⟨lw_p20, List.forall_mem_cons.mpr ⟨lw_p21, List.forall_mem_cons.mpr ⟨lw_p22, List.forall_mem_cons.mpr ⟨lw_p23, List.forall_mem_cons.mpr ⟨lw_p24, List.forall_mem_cons.mpr ⟨lw_p25, List.forall_mem_cons.mpr ⟨lw_p26, List.forall_mem_cons.mpr ⟨lw_p27, List.forall_mem_cons.mpr ⟨lw_p28, List.forall_mem_cons.mpr ⟨lw_p29, List.forall_mem_cons.mpr ⟨lw_p30, List.forall_mem_cons.mpr ⟨lw_p31, fun _ h => absurd h List.not_mem_nil⟩⟩⟩⟩⟩⟩⟩⟩⟩⟩⟩⟩⟩⟩⟩⟩
theorem lw_p32 : lw_okq (⟨"GrammarMachineModel", "take", "(I)V"⟩, 35) := ⟨⟨by decide +kernel, by decide +kernel⟩, List.mem_of_getElem? (i := 856) (by decide +kernel), List.mem_of_getElem? (i := 1031) (by decide +kernel), List.mem_of_getElem? (i := 1032) (by decide +kernel)⟩
theorem lw_p33 : lw_okq (⟨"GrammarMachineModel", "closeAll", "()V"⟩, 35) := ⟨⟨by decide +kernel, by decide +kernel⟩, List.mem_of_getElem? (i := 856) (by decide +kernel), List.mem_of_getElem? (i := 1035) (by decide +kernel), List.mem_of_getElem? (i := 1036) (by decide +kernel)⟩
theorem lw_p34 : lw_okq (⟨"GrammarMachineModel", "checked", "(I)I"⟩, 35) := ⟨⟨by decide +kernel, by decide +kernel⟩, List.mem_of_getElem? (i := 856) (by decide +kernel), List.mem_of_getElem? (i := 1054) (by decide +kernel), List.mem_of_getElem? (i := 1055) (by decide +kernel)⟩
theorem lw_p35 : lw_okq (⟨"GrammarMachineModel", "work", "()V"⟩, 35) := ⟨⟨by decide +kernel, by decide +kernel⟩, List.mem_of_getElem? (i := 856) (by decide +kernel), List.mem_of_getElem? (i := 1058) (by decide +kernel), List.mem_of_getElem? (i := 1059) (by decide +kernel)⟩
theorem lw_p36 : lw_okq (⟨"GrammarMachineModel", "isNode", "(I)Z"⟩, 35) := ⟨⟨by decide +kernel, by decide +kernel⟩, List.mem_of_getElem? (i := 856) (by decide +kernel), List.mem_of_getElem? (i := 1062) (by decide +kernel), List.mem_of_getElem? (i := 1063) (by decide +kernel)⟩
theorem lw_p37 : lw_okq (⟨"GrammarMachineModel", "emptyNow", "(I)Z"⟩, 35) := ⟨⟨by decide +kernel, by decide +kernel⟩, List.mem_of_getElem? (i := 856) (by decide +kernel), List.mem_of_getElem? (i := 1066) (by decide +kernel), List.mem_of_getElem? (i := 1067) (by decide +kernel)⟩
theorem lw_p38 : lw_okq (⟨"GrammarMachineModel", "startsNow", "(I)I"⟩, 35) := ⟨⟨by decide +kernel, by decide +kernel⟩, List.mem_of_getElem? (i := 856) (by decide +kernel), List.mem_of_getElem? (i := 1070) (by decide +kernel), List.mem_of_getElem? (i := 1071) (by decide +kernel)⟩
theorem lw_p39 : lw_okq (⟨"GrammarMachineModel", "reached", "(II)I"⟩, 35) := ⟨⟨by decide +kernel, by decide +kernel⟩, List.mem_of_getElem? (i := 856) (by decide +kernel), List.mem_of_getElem? (i := 1074) (by decide +kernel), List.mem_of_getElem? (i := 1075) (by decide +kernel)⟩
theorem lw_p40 : lw_okq (⟨"GrammarMachineModel", "findEnds", "()V"⟩, 35) := ⟨⟨by decide +kernel, by decide +kernel⟩, List.mem_of_getElem? (i := 856) (by decide +kernel), List.mem_of_getElem? (i := 1082) (by decide +kernel), List.mem_of_getElem? (i := 1083) (by decide +kernel)⟩
theorem lw_p41 : lw_okq (⟨"GrammarMachineModel", "endNow", "(II)I"⟩, 35) := ⟨⟨by decide +kernel, by decide +kernel⟩, List.mem_of_getElem? (i := 856) (by decide +kernel), List.mem_of_getElem? (i := 1086) (by decide +kernel), List.mem_of_getElem? (i := 1087) (by decide +kernel)⟩
theorem lw_p42 : lw_okq (⟨"GrammarMachineModel", "sequenceFrom", "(II)I"⟩, 35) := ⟨⟨by decide +kernel, by decide +kernel⟩, List.mem_of_getElem? (i := 856) (by decide +kernel), List.mem_of_getElem? (i := 1090) (by decide +kernel), List.mem_of_getElem? (i := 1091) (by decide +kernel)⟩
theorem lw_p43 : lw_okq (⟨"GrammarMachineModel", "choiceFrom", "(II)I"⟩, 35) := ⟨⟨by decide +kernel, by decide +kernel⟩, List.mem_of_getElem? (i := 856) (by decide +kernel), List.mem_of_getElem? (i := 1094) (by decide +kernel), List.mem_of_getElem? (i := 1095) (by decide +kernel)⟩
theorem lw_p44 : lw_okq (⟨"GrammarMachineModel", "roundFrom", "(II)I"⟩, 35) := ⟨⟨by decide +kernel, by decide +kernel⟩, List.mem_of_getElem? (i := 856) (by decide +kernel), List.mem_of_getElem? (i := 1098) (by decide +kernel), List.mem_of_getElem? (i := 1099) (by decide +kernel)⟩
theorem lw_p45 : lw_okq (⟨"GrammarMachineModel", "matched", "(II)I"⟩, 35) := ⟨⟨by decide +kernel, by decide +kernel⟩, List.mem_of_getElem? (i := 856) (by decide +kernel), List.mem_of_getElem? (i := 1102) (by decide +kernel), List.mem_of_getElem? (i := 1103) (by decide +kernel)⟩
theorem lw_p46 : lw_okq (⟨"GrammarMachineModel", "lookAll", "(II)V"⟩, 35) := ⟨⟨by decide +kernel, by decide +kernel⟩, List.mem_of_getElem? (i := 856) (by decide +kernel), List.mem_of_getElem? (i := 1106) (by decide +kernel), List.mem_of_getElem? (i := 1107) (by decide +kernel)⟩
theorem lw_p47 : lw_okq (⟨"GrammarMachineModel", "rule", "(II)V"⟩, 35) := ⟨⟨by decide +kernel, by decide +kernel⟩, List.mem_of_getElem? (i := 856) (by decide +kernel), List.mem_of_getElem? (i := 1110) (by decide +kernel), List.mem_of_getElem? (i := 1111) (by decide +kernel)⟩
def lw_privs_3 : List (MethodName × Nat) := [(⟨"GrammarMachineModel", "take", "(I)V"⟩, 35), (⟨"GrammarMachineModel", "closeAll", "()V"⟩, 35), (⟨"GrammarMachineModel", "checked", "(I)I"⟩, 35), (⟨"GrammarMachineModel", "work", "()V"⟩, 35), (⟨"GrammarMachineModel", "isNode", "(I)Z"⟩, 35), (⟨"GrammarMachineModel", "emptyNow", "(I)Z"⟩, 35), (⟨"GrammarMachineModel", "startsNow", "(I)I"⟩, 35), (⟨"GrammarMachineModel", "reached", "(II)I"⟩, 35), (⟨"GrammarMachineModel", "findEnds", "()V"⟩, 35), (⟨"GrammarMachineModel", "endNow", "(II)I"⟩, 35), (⟨"GrammarMachineModel", "sequenceFrom", "(II)I"⟩, 35), (⟨"GrammarMachineModel", "choiceFrom", "(II)I"⟩, 35), (⟨"GrammarMachineModel", "roundFrom", "(II)I"⟩, 35), (⟨"GrammarMachineModel", "matched", "(II)I"⟩, 35), (⟨"GrammarMachineModel", "lookAll", "(II)V"⟩, 35), (⟨"GrammarMachineModel", "rule", "(II)V"⟩, 35)]
theorem lw_r3 : ∀ q ∈ lw_privs_3, lw_okq q := List.forall_mem_cons.mpr ⟨lw_p32, List.forall_mem_cons.mpr ⟨lw_p33, List.forall_mem_cons.mpr ⟨lw_p34, List.forall_mem_cons.mpr ⟨lw_p35, List.forall_mem_cons.mpr ⟨lw_p36, List.forall_mem_cons.mpr ⟨lw_p37, List.forall_mem_cons.mpr ⟨lw_p38, List.forall_mem_cons.mpr ⟨lw_p39, List.forall_mem_cons.mpr ⟨lw_p40, List.forall_mem_cons.mpr ⟨lw_p41, List.forall_mem_cons.mpr ⟨lw_p42, List.forall_mem_cons.mpr ⟨lw_p43, List.forall_mem_cons.mpr ⟨lw_p44, List.forall_mem_cons.mpr ⟨lw_p45, List.forall_mem_cons.mpr ⟨lw_p46, List.forall_mem_cons.mpr ⟨lw_p47, fun _ h => absurd h List.not_mem_nil⟩⟩⟩⟩⟩⟩⟩⟩⟩⟩⟩⟩⟩⟩⟩⟩
theorem lw_p48 : lw_okq (⟨"GrammarMachineModel", "lookAt", "(II)V"⟩, 35) := ⟨⟨by decide +kernel, by decide +kernel⟩, List.mem_of_getElem? (i := 856) (by decide +kernel), List.mem_of_getElem? (i := 1114) (by decide +kernel), List.mem_of_getElem? (i := 1115) (by decide +kernel)⟩
theorem lw_p49 : lw_okq (⟨"GrammarMachineModel", "lookWithin", "(II)V"⟩, 35) := ⟨⟨by decide +kernel, by decide +kernel⟩, List.mem_of_getElem? (i := 856) (by decide +kernel), List.mem_of_getElem? (i := 1118) (by decide +kernel), List.mem_of_getElem? (i := 1119) (by decide +kernel)⟩
theorem lw_p50 : lw_okq (⟨"GrammarMachineModel", "push", "(II)V"⟩, 35) := ⟨⟨by decide +kernel, by decide +kernel⟩, List.mem_of_getElem? (i := 856) (by decide +kernel), List.mem_of_getElem? (i := 1122) (by decide +kernel), List.mem_of_getElem? (i := 1123) (by decide +kernel)⟩
theorem lw_p51 : lw_okq (⟨"GrammarMachineModel", "captureWithin", "(II)V"⟩, 35) := ⟨⟨by decide +kernel, by decide +kernel⟩, List.mem_of_getElem? (i := 856) (by decide +kernel), List.mem_of_getElem? (i := 1126) (by decide +kernel), List.mem_of_getElem? (i := 1127) (by decide +kernel)⟩
theorem lw_p52 : lw_okq (⟨"GrammarMachineModel", "keep", "(II)V"⟩, 35) := ⟨⟨by decide +kernel, by decide +kernel⟩, List.mem_of_getElem? (i := 856) (by decide +kernel), List.mem_of_getElem? (i := 1130) (by decide +kernel), List.mem_of_getElem? (i := 1131) (by decide +kernel)⟩
theorem lw_p53 : lw_okq (⟨"GrammarMachineModel", "turn", "(I)V"⟩, 35) := ⟨⟨by decide +kernel, by decide +kernel⟩, List.mem_of_getElem? (i := 856) (by decide +kernel), List.mem_of_getElem? (i := 1134) (by decide +kernel), List.mem_of_getElem? (i := 1135) (by decide +kernel)⟩
def lw_privs_4 : List (MethodName × Nat) := [(⟨"GrammarMachineModel", "lookAt", "(II)V"⟩, 35), (⟨"GrammarMachineModel", "lookWithin", "(II)V"⟩, 35), (⟨"GrammarMachineModel", "push", "(II)V"⟩, 35), (⟨"GrammarMachineModel", "captureWithin", "(II)V"⟩, 35), (⟨"GrammarMachineModel", "keep", "(II)V"⟩, 35), (⟨"GrammarMachineModel", "turn", "(I)V"⟩, 35)]
theorem lw_r4 : ∀ q ∈ lw_privs_4, lw_okq q := List.forall_mem_cons.mpr ⟨lw_p48, List.forall_mem_cons.mpr ⟨lw_p49, List.forall_mem_cons.mpr ⟨lw_p50, List.forall_mem_cons.mpr ⟨lw_p51, List.forall_mem_cons.mpr ⟨lw_p52, List.forall_mem_cons.mpr ⟨lw_p53, fun _ h => absurd h List.not_mem_nil⟩⟩⟩⟩⟩⟩
def lw_privs : List (MethodName × Nat) := lw_privs_1 ++ (lw_privs_2 ++ (lw_privs_3 ++ (lw_privs_4)))
def lw_tbl : List Cond := k2_sels lw_privs ++ tables_1
theorem lw_privs_ok : ∀ q ∈ lw_privs, lw_okq q := by
  show ∀ q ∈ lw_privs_1 ++ (lw_privs_2 ++ (lw_privs_3 ++ (lw_privs_4))), lw_okq q
  exact List.forall_mem_append.mpr ⟨lw_r1, List.forall_mem_append.mpr ⟨lw_r2, List.forall_mem_append.mpr ⟨lw_r3, lw_r4⟩⟩⟩
end
section
/-! ===== BEGIN words of one list among another's, by their places ===== -/
theorem goodIn_r {big : List Cond} (ws : List Cond) (ps : List Nat) (hp : ws = ps.filterMap (fun i => big[i]?)) (h : ws.all goodWord = true) : GoodIn big ws := by
  intro w hw
  have h1 := List.all_eq_true.mp h w hw
  rw [hp] at hw
  obtain ⟨i, -, hi⟩ := List.mem_filterMap.mp hw
  have hm : w ∈ big := by first | exact List.mem_of_getElem? hi | exact List.getElem?_mem hi
  exact ⟨hm, good_of_word h1⟩
theorem goodIn_app {big a b : List Cond} (ha : GoodIn big a) (hb : GoodIn big b) : GoodIn big (a ++ b) := fun w h => (List.mem_append.mp h).elim (ha w) (hb w)
theorem goodIn_ca {big a b : List Cond} {c : Cond} (ha : GoodIn big (c :: a)) (hb : GoodIn big b) : GoodIn big (c :: (a ++ b)) := fun w h => (List.mem_cons.mp h).elim (fun e => ha w (List.mem_cons.mpr (Or.inl e))) (fun h => (List.mem_append.mp h).elim (fun h => ha w (List.mem_cons.mpr (Or.inr h))) (hb w))
theorem goodIn_sub {big ws : List Cond} (hm : ∀ w ∈ ws, w ∈ big) (h : ws.all goodWord = true) : GoodIn big ws := fun w hw => ⟨hm w hw, good_of_word (List.all_eq_true.mp h w hw)⟩
/-! ===== END ===== -/

/-! ===== BEGIN exceptions that leave a method, and their catching by the caller (launches without stack traces) ===== -/
section VXA
/-! The laws vx_back, vx_callV, vx_callS, vx_callSW, vx_throw0, vx_throwS follow proofs of the library, with one case more: JvmDerived/Free/Laws.lean (Back.of_free), Shelf42/LK1.lean (callV, callS), Shelf/KitTraced.lean (throwNew0V, throwNewS). -/

/-- where a method has thrown q: the class by its name, the cell, what was written, the world -/
def vx_T (XC : String → State → State → Prop) (st : State) (q : Addr) (t : State) (mc ms : Nat) (free : Addr → Prop) : Prop :=
  ∃ (E : String) (ce : Cell) (L : List Loc), XC E st t ∧ t.heap[q]? = some ce ∧ ce.vm = .none ∧ st.vm.findClass E = some ce.cls ∧ st.WarmedH t.vm ∧ st.sameButNew ({ t with vm := st.vm } : State) L mc ms ∧ ∀ z ∈ L, free z.base
def vx_Q (Qc : Array Value → State → Outcome → State → Prop) (XC : String → State → State → Prop) (mc ms : Nat) (free : Addr → Prop) : Array Value → State → Outcome → State → Prop := fun a st o t =>
  (Qc a st o t ∧ ∃ L, FrameEnd st o t L mc ms ∧ ∀ q ∈ L, free q.base) ∨ ∃ q, o = .threw q ∧ vx_T XC st q t mc ms free
/-- a callee that returns or throws -/
def vx_Met (l : Launch) (y : MethodName) (ws : List Cond) (rm : Room) (Pc : Array Value → State → Prop) (Qc : Array Value → State → Outcome → State → Prop) (XC : String → State → State → Prop) (mc ms : Nat) (free : Addr → Prop) : Prop :=
  MetFree l y (headSpec ws rm) Pc (fun _ _ _ _ _ => True) (vx_Q Qc XC mc ms free)
def vx_Post (XC : String → State → State → Prop) (mc ms : Nat) (free : Addr → Prop) : Pt → Array Value → Addr → Pt → Prop := fun A a q B =>
  ∃ (g : JFrame) (mk : MethodId) (t : State) (L : List Loc) (E : String) (ce : Cell), B.U.heap = t.heap ∧ B.U.vm = t.vm ∧ XC E (A.U.calling g mk a) t ∧ t.heap[q]? = some ce ∧ ce.vm = .none ∧ A.U.vm.findClass E = some ce.cls ∧ B.locs = A.locs ++ L ∧ (∀ z ∈ L, free z.base) ∧ B.cells = A.cells + mc ∧ B.slots = A.slots + ms
def vx_Back (l : Launch) (R : Room) (p : Program) (e : Env) (below : List Frame) (s : State) (sargs : Array Value) (y : MethodName) (len W9 : Nat)
    (Pre : Pt → Array Value → Prop) (Post : Pt → Array Value → Option Value → Pt → Prop) (PostX : Pt → Array Value → Addr → Pt → Prop) : Prop :=
  ∀ (m : MethodId) (meth : Method) (c : Code) (A : Pt) (g : JFrame) (ig : Instr) (mk : MethodId) (a : Array Value),
    Stand p l e R s m sargs below meth c A.U A.locs A.cells A.slots → g.method = m → g.locals.size = c.maxLocals → decode c.code g.pc = .ok (ig, len) →
    2 * g.monitorRoom + (g.stack.map fun v => v.category).sum ≤ W9 → A.U.methodNamed? y = some mk → Pre A a →
    (∃ (v : Option Value) (B : Pt), Stand p l e R s m sargs below meth c B.U B.locs B.cells B.slots ∧ Post A a v B ∧
      Steps p.tables e below (doInvoke e (A.U.setTop g) [] mk a).1 (B.U.setTop { g with pc := g.pc + len, stack := v.toList ++ g.stack })) ∨
    (∃ (q : Addr) (B : Pt), Stand p l e R s m sargs below meth c B.U B.locs B.cells B.slots ∧ PostX A a q B ∧
      Steps p.tables e below (doInvoke e (A.U.setTop g) [] mk a).1 ((B.U.setTop g).pushFrame (.throwing q)))
section Payer
variable {l : Launch} {R : Room} {p : Program} {e : Env} {below : List Frame} {s : State} {sargs : Array Value} {y : MethodName} {len W9 : Nat}
theorem vx_back {ws : List Cond} {rm : Room} {Pc : Array Value → State → Prop} {Qc : Array Value → State → Outcome → State → Prop} {XC : String → State → State → Prop} {mc ms : Nat} {free : Addr → Prop} {bytes : ByteArray} {maxL : Nat} {ret : Option FieldType}
    (hM : vx_Met l y ws rm Pc Qc XC mc ms free) (hblind : FrameBlind Pc) (hrc : rm.cells = mc) (hrs : rm.slots = ms)
    (hframes : rm.frames + 1 ≤ R.frames) (hlocals : W9 + (maxL + 11) + rm.locals ≤ R.locals)
    (hws : ∀ w ∈ ws, ∀ a' U, s.WarmedH U.vm → w.before a' U = true) (hcode : Cond.code y bytes maxL ret ∈ ws) (hinit : ∀ a' U, s.WarmedH U.vm → (Cond.initialized y.cls).before a' U = true) :
    vx_Back l R p e below s sargs y len W9 (PreOf R mc ms Pc) (PostOf Qc mc ms free) (vx_Post XC mc ms free) := by
  intro m meth c A g ig mk a X hg hsize hdg hW hn hp
  have h1 : (headSpec ws rm).pre.before a A.U = true := atoms_intro fun w hw => hws w hw _ _ X.warmed
  have h2 : (Cond.code y bytes maxL ret).before a A.U = true := hws _ hcode _ _ X.warmed
  have h3 : (Cond.initialized y.cls).before a A.U = true := hinit _ _ X.warmed
  have h4 : A.cells + (headSpec ws rm).room.cells ≤ R.cells := by rw [show (headSpec ws rm).room.cells = mc from hrc]; exact hp.1
  have h5 : A.slots + (headSpec ws rm).room.slots ≤ R.slots := by rw [show (headSpec ws rm).room.slots = ms from hrs]; exact hp.2.1
  have hPc : Pc a (A.U.calling g mk a) := hblind _ _ _ _ hp.2.2
  obtain ⟨U, Ls, c0, s0⟩ := A
  dsimp only [Pt.U, Pt.locs, Pt.cells, Pt.slots] at h1 h2 h3 h4 h5 X hn hPc ⊢
  obtain ⟨methY, cY, hmY, hcY, -, hlY, -, -, -, -⟩ := Cond.code_spec hn h2
  obtain ⟨kY, hkY, -⟩ := className_of_methodNamed hn
  have hinitY : kY.init = .initialized := Cond.initialized_spec (findClass_of_methodNamed hn) hkY h3
  have h : At U g.method c below := by rw [hg]; exact X.here
  have hlocals9 : W9 + (maxL + 11) + (headSpec ws rm).room.locals ≤ R.locals := hlocals
  have happ : (headSpec ws rm).appliesLoose y e.platform (U.calling g mk a) = true :=
    Spec.appliesLoose_calling (g := g) h hdg hn hkY hinitY
      (X.room_calling (g := g) (R' := (headSpec ws rm).room) hsize hmY hcY hframes (by rw [hlY]; omega) h4 h5) h1
  obtain ⟨mid, hmid⟩ := h.above
  have hfr : (U.setTop g).frames = (.java g :: mid) ++ below := by rw [State.frames_setTop' g h.top, hmid]; rfl
  obtain ⟨o, s₂, hsteps, -, hend, hq⟩ := Steps.callFree hM p X.admits X.cas X.clock (acts := []) hfr happ hPc trivial
  have hq' : vx_Q Qc XC mc ms free a (U.calling g mk a) o s₂ := hq
  rw [State.frames_setTop' g h.top] at hend
  obtain ⟨g₀, hg0⟩ := Option.isSome_iff_exists.mp h.top
  obtain ⟨r, hr⟩ := State.topJava?_eq_some.mp hg0
  have hr' : (({ U with heap := s₂.heap, slotsUsed := s₂.slotsUsed } : State).setVm s₂.vm).frames = .java g₀ :: r := hr
  rcases hq' with ⟨hqc, L, hfe, hL⟩ | ⟨q, rfl, E, ce, L, hx, hce, hcv, hcl, hW₂, hsm, hL⟩
  · obtain ⟨⟨v, rfl⟩, hW₂, e2, q2, q3, q4, q5, q6⟩ := id hfe
    have e3 : s₂ = ({ (U.calling g mk a).setFrames s₂.frames with heap := s₂.heap, slotsUsed := s₂.slotsUsed } : State).setVm s₂.vm := by
      have : s₂ = ({ s₂ with vm := (U.calling g mk a).vm } : State).setVm s₂.vm := rfl
      rw [e2] at this
      exact this
    obtain ⟨c₂, i₂, len₂, hc₂, hd₂, hf₂⟩ := hend
    have hW' : U.WarmedH s₂.vm := hW₂
    have hcc : c₂ = c := by
      have h1 : s₂.code? g.method = U.code? g.method := by
        rw [State.code?_eq, State.code?_eq, hW'.alike.method?]
      exact Option.some.inj (hc₂.symm.trans (h1.trans h.code))
    subst hcc
    have hlen : len₂ = len := by rw [hdg] at hd₂; cases hd₂; rfl
    subst hlen
    have hs₂ : s₂ = (({ U with heap := s₂.heap, slotsUsed := s₂.slotsUsed } : State).setVm s₂.vm).setTop { g with pc := g.pc + len₂, stack := v.toList ++ g.stack } := by
      refine e3.trans ?_
      rw [hf₂, State.calling_eq h.top, State.setFrames_setFrames, State.setTop_of_frames _ hr', hr]
      rfl
    have hsame : U.sameButNew ({ U with heap := s₂.heap, slotsUsed := s₂.slotsUsed } : State) L mc ms := by
      refine ⟨?_, q2, q3, q4, q5, q6⟩
      obtain ⟨t, ht, -⟩ := State.frames_cons hr
      show ({ U with heap := s₂.heap, slotsUsed := s₂.slotsUsed } : State) = { U.setFrames U.frames with heap := s₂.heap, slotsUsed := s₂.slotsUsed }
      rw [State.setFrames_self ht]
    subst hg
    refine Or.inl ⟨v, ⟨(({ U with heap := s₂.heap, slotsUsed := s₂.slotsUsed } : State).setVm s₂.vm), Ls ++ L, c0 + mc, s0 + ms⟩,
      ⟨X.admits, X.cas, X.clock, X.frames, X.room, X.hears, X.method, X.code, (X.here.setHeapUsed s₂.heap s₂.slotsUsed).setVm hW'.alike, X.tail, State.WarmedH.trans X.warmed hW', X.limits, X.bytes, X.same.trans (hsame.setVm s.vm)⟩,
      ⟨g, mk, s₂, L, rfl, rfl, hqc, rfl, hL, rfl, rfl⟩, ?_⟩
    show Steps p.tables e below _ ((({ U with heap := s₂.heap, slotsUsed := s₂.slotsUsed } : State).setVm s₂.vm).setTop { g with pc := g.pc + len₂, stack := v.toList ++ g.stack })
    rw [← hs₂]
    exact hsteps
  · obtain ⟨e2, q2, q3, q4, q5, q6⟩ := id hsm
    have e3 : s₂ = ({ (U.calling g mk a).setFrames s₂.frames with heap := s₂.heap, slotsUsed := s₂.slotsUsed } : State).setVm s₂.vm := by
      have : s₂ = ({ s₂ with vm := (U.calling g mk a).vm } : State).setVm s₂.vm := rfl
      rw [e2] at this
      exact this
    have hf₂ : s₂.frames = .throwing q :: .java g :: U.frames.tail := hend
    have hW' : U.WarmedH s₂.vm := hW₂
    have hs₂ : s₂ = ((({ U with heap := s₂.heap, slotsUsed := s₂.slotsUsed } : State).setVm s₂.vm).setTop g).pushFrame (.throwing q) := by
      refine e3.trans ?_
      rw [hf₂, State.calling_eq h.top, State.setFrames_setFrames, State.pushFrame, State.frames_setTop _ hr', State.setTop_of_frames _ hr', State.setFrames_setFrames, hr]
      rfl
    have hsame : U.sameButNew ({ U with heap := s₂.heap, slotsUsed := s₂.slotsUsed } : State) L mc ms := by
      refine ⟨?_, q2, q3, q4, q5, q6⟩
      obtain ⟨t, ht, -⟩ := State.frames_cons hr
      show ({ U with heap := s₂.heap, slotsUsed := s₂.slotsUsed } : State) = { U.setFrames U.frames with heap := s₂.heap, slotsUsed := s₂.slotsUsed }
      rw [State.setFrames_self ht]
    subst hg
    refine Or.inr ⟨q, ⟨(({ U with heap := s₂.heap, slotsUsed := s₂.slotsUsed } : State).setVm s₂.vm), Ls ++ L, c0 + mc, s0 + ms⟩,
      ⟨X.admits, X.cas, X.clock, X.frames, X.room, X.hears, X.method, X.code, (X.here.setHeapUsed s₂.heap s₂.slotsUsed).setVm hW'.alike, X.tail, State.WarmedH.trans X.warmed hW', X.limits, X.bytes, X.same.trans (hsame.setVm s.vm)⟩,
      ⟨g, mk, s₂, L, E, ce, rfl, rfl, hx, hce, hcv, hcl, rfl, hL, rfl, rfl⟩, ?_⟩
    show Steps p.tables e below _ (((({ U with heap := s₂.heap, slotsUsed := s₂.slotsUsed } : State).setVm s₂.vm).setTop g).pushFrame (.throwing q))
    rw [← hs₂]
    exact hsteps
end Payer
section Calls
variable {p : Program} {l : Launch} {e : Env} {R : Room} {s : State} {m : MethodId} {args : Array Value} {below : List Frame} {meth : Method} {c : Code} {T : State} {locs : List Loc} {cells slots : Nat}
theorem vx_callV (X : Stand p l e R s m args below meth c T locs cells slots) (hexec : p.tables.exec = Jvm.exec) {own C : String} {index : Nat} {y : MethodName} {bytes : ByteArray} {maxL : Nat} {ret : Option FieldType}
    (hown : s.vm.findClass own = some m.cls) (hlink : (Cond.methodLink own index y).before args s = true) (hinst : (Cond.instanceMethod y).before args s = true) (hsel : (Cond.selects C y y).before args s = true)
    (hcode : (Cond.code y bytes maxL ret).before args s = true) (hy : y.cls ≠ "java/lang/invoke/MethodHandle" ∧ y.cls ≠ "java/lang/invoke/VarHandle")
    {W9 : Nat} {Pre : Pt → Array Value → Prop} {Post : Pt → Array Value → Option Value → Pt → Prop} {PostX : Pt → Array Value → Addr → Pt → Prop} (hK : vx_Back l R p e below s args y 3 W9 Pre Post PostX)
    {b : Addr} {cellB : Cell} (hcell : T.heap[b]? = some cellB) (hobj : cellB.vm.isStatics = false) (hcls : s.vm.findClass C = some cellB.cls)
    {g : JFrame} (hg : g.method = m) (hsize : g.locals.size = c.maxLocals) {argsL rest : List Value} (hlen : ∀ sig, parseMethodDescriptor y.desc = some sig → argsL.length = sig.parameters.length)
    (hstack : g.stack = argsL.reverse ++ .ref b :: rest) (hW : 2 * g.monitorRoom + (rest.map fun v => v.category).sum ≤ W9) (hdg : decode c.code g.pc = .ok (.invokevirtual index, 3))
    (hpre : ∀ vm₁, s.WarmedH vm₁ → Pre ⟨T.setVm vm₁, locs, cells, slots⟩ (Value.ref b :: argsL).toArray) :
    (∃ (v : Option Value) (vm₁ : Vm) (B : Pt), s.WarmedH vm₁ ∧ Stand p l e R s m args below meth c B.U B.locs B.cells B.slots ∧ Post ⟨T.setVm vm₁, locs, cells, slots⟩ (Value.ref b :: argsL).toArray v B ∧
      ∀ target, Steps p.tables e below (B.U.setTop { g with pc := g.pc + 3, stack := v.toList ++ rest }) target → Steps p.tables e below (T.setTop g) target) ∨
    (∃ (q : Addr) (vm₁ : Vm) (B : Pt), s.WarmedH vm₁ ∧ Stand p l e R s m args below meth c B.U B.locs B.cells B.slots ∧ PostX ⟨T.setVm vm₁, locs, cells, slots⟩ (Value.ref b :: argsL).toArray q B ∧
      Steps p.tables e below (T.setTop g) ((B.U.setTop { g with stack := rest }).pushFrame (.throwing q))) := by
  obtain ⟨mk, methM, hnamed, hmethM, hstM, habM⟩ := Cond.instanceMethod_spec hinst
  obtain ⟨methM', cM, hmethM', -, -, -, -, -, -, hsigM⟩ := Cond.code_spec hnamed hcode
  cases hmethM.symm.trans hmethM'
  obtain ⟨c2, r2, m2, q1, q2, q3, q4, kP, hkP, hkPi⟩ := Cond.selects_spec hsel
  cases hcls.symm.trans q1
  cases (State.methodFound?_of_named hnamed hy).symm.trans q2
  cases hnamed.symm.trans q3
  have hselP : selectMethod e.platform s.vm cellB.cls mk = .method mk := by rw [Launch.admits_selectMethod X.admits]; exact q4
  obtain ⟨vm₁, X₁, hstep₁⟩ := X.invokevirtual hexec hown hlink hnamed hmethM hstM hkP hkPi hy (a := b) (cell := cellB) hcell
    (fun z h => by rw [h] at hobj; cases hobj) hselP hmethM habM hkP hkPi (g := g) hg (argsL := argsL) (rest := rest) (hlen _ hsigM) hstack hdg
  rcases hK m meth c ⟨T.setVm vm₁, locs, cells, slots⟩ { g with stack := rest } (.invokevirtual index) mk (Value.ref b :: argsL).toArray X₁ hg hsize hdg hW (X₁.named hnamed) (hpre vm₁ X₁.warmed) with ⟨v, B, X', hpost, hsteps⟩ | ⟨q, B, X', hpost, hsteps⟩
  · exact Or.inl ⟨v, vm₁, B, X₁.warmed, X', hpost, fun target h => hstep₁ _ fun acts => by rw [doInvoke_state]; exact hsteps.trans h⟩
  · exact Or.inr ⟨q, vm₁, B, X₁.warmed, X', hpost, hstep₁ _ fun acts => by rw [doInvoke_state]; exact hsteps⟩
theorem vx_callS (X : Stand p l e R s m args below meth c T locs cells slots) (hexec : p.tables.exec = Jvm.exec) {own : String} {index : Nat} {y : MethodName} {bytes : ByteArray} {maxL : Nat} {ret : Option FieldType}
    (hown : s.vm.findClass own = some m.cls) (hlink : (Cond.methodLink own index y).before args s = true) (hstat : (Cond.static y).before args s = true) (hinit : (Cond.initialized y.cls).before args s = true)
    (hcode : (Cond.code y bytes maxL ret).before args s = true) (hy : y.cls ≠ "java/lang/invoke/MethodHandle" ∧ y.cls ≠ "java/lang/invoke/VarHandle")
    {W9 : Nat} {Pre : Pt → Array Value → Prop} {Post : Pt → Array Value → Option Value → Pt → Prop} {PostX : Pt → Array Value → Addr → Pt → Prop} (hK : vx_Back l R p e below s args y 3 W9 Pre Post PostX)
    {g : JFrame} (hg : g.method = m) (hsize : g.locals.size = c.maxLocals) {argsL rest : List Value} (hlen : ∀ sig, parseMethodDescriptor y.desc = some sig → argsL.length = sig.parameters.length)
    (hstack : g.stack = argsL.reverse ++ rest) (hW : 2 * g.monitorRoom + (rest.map fun v => v.category).sum ≤ W9) (hdg : decode c.code g.pc = .ok (.invokestatic index, 3))
    (hpre : ∀ vm₁, s.WarmedH vm₁ → Pre ⟨T.setVm vm₁, locs, cells, slots⟩ argsL.toArray) :
    (∃ (v : Option Value) (vm₁ : Vm) (B : Pt), s.WarmedH vm₁ ∧ Stand p l e R s m args below meth c B.U B.locs B.cells B.slots ∧ Post ⟨T.setVm vm₁, locs, cells, slots⟩ argsL.toArray v B ∧
      ∀ target, Steps p.tables e below (B.U.setTop { g with pc := g.pc + 3, stack := v.toList ++ rest }) target → Steps p.tables e below (T.setTop g) target) ∨
    (∃ (q : Addr) (vm₁ : Vm) (B : Pt), s.WarmedH vm₁ ∧ Stand p l e R s m args below meth c B.U B.locs B.cells B.slots ∧ PostX ⟨T.setVm vm₁, locs, cells, slots⟩ argsL.toArray q B ∧
      Steps p.tables e below (T.setTop g) ((B.U.setTop { g with stack := rest }).pushFrame (.throwing q))) := by
  obtain ⟨mk, hnamed⟩ := Cond.code_named hcode
  obtain ⟨methM, cM, hmethM, -, -, -, -, -, -, hsigM⟩ := Cond.code_spec hnamed hcode
  have hstatic : methM.isStatic = true := Cond.static_spec hnamed hmethM hstat
  obtain ⟨kP, hkP, -⟩ := className_of_methodNamed hnamed
  have hinitP : kP.init = .initialized := Cond.initialized_spec (findClass_of_methodNamed hnamed) hkP hinit
  obtain ⟨vm₁, X₁, hstep₁⟩ := X.invokestatic hexec hown hlink hnamed hmethM hstatic hkP hinitP hy (g := g) hg (argsL := argsL) (rest := rest) (hlen _ hsigM) hstack hdg
  rcases hK m meth c ⟨T.setVm vm₁, locs, cells, slots⟩ { g with stack := rest } (.invokestatic index) mk argsL.toArray X₁ hg hsize hdg hW (X₁.named hnamed) (hpre vm₁ X₁.warmed) with ⟨v, B, X', hpost, hsteps⟩ | ⟨q, B, X', hpost, hsteps⟩
  · exact Or.inl ⟨v, vm₁, B, X₁.warmed, X', hpost, fun target h => hstep₁ _ fun acts => by rw [doInvoke_state]; exact hsteps.trans h⟩
  · exact Or.inr ⟨q, vm₁, B, X₁.warmed, X', hpost, hstep₁ _ fun acts => by rw [doInvoke_state]; exact hsteps⟩
end Calls
theorem vx_cls {s : State} {T : State} {vm₁ : Vm} {E : String} {k : ClassId} (hW : s.WarmedH vm₁) (h : (T.setVm vm₁).vm.findClass E = some k) : s.vm.findClass E = some k := by
  have h1 : vm₁.findClass E = some k := h
  rw [hW.alike.findClass] at h1
  exact h1
/-- the method's frame g, with q thrown over it -/
def vx_W (p : Program) (l : Launch) (e : Env) (R : Room) (s : State) (m : MethodId) (args : Array Value) (below : List Frame) (meth : Method) (c : Code) (H : Heap) (locs : List Loc) (cells slots : Nat) (Q : State → Prop) (g : JFrame) (q : Addr) : Prop :=
  ∀ T : State, T.heap = H → Stand p l e R s m args below meth c T locs cells slots → ∃ t, Steps p.tables e below ((T.setTop g).pushFrame (.throwing q)) t ∧ Q t
def vx_Run (p : Program) (l : Launch) (e : Env) (R : Room) (s : State) (m : MethodId) (args : Array Value) (below : List Frame) (meth : Method) (c : Code) (H : Heap) (locs : List Loc) (cells slots mc ms : Nat) (g : JFrame) (rest : List Value) (Qa : State → Outcome → State → Prop) (XC : String → State → State → Prop) (free : Addr → Prop) : Prop :=
  ∀ T : State, T.heap = H → Stand p l e R s m args below meth c T locs cells slots →
    (∃ (v : Option Value) (st₀ t T' : State) (L : List Loc), st₀.heap = H ∧ Stand p l e R s m args below meth c T' (locs ++ L) (cells + mc) (slots + ms) ∧ (∀ q ∈ L, free q.base) ∧ T'.heap = t.heap ∧ T'.vm = t.vm ∧ Qa st₀ (.returned v) t ∧
      Goes p e below T g T' { g with pc := g.pc + 3, stack := v.toList ++ rest }) ∨
    (∃ (q : Addr) (st₀ t T' : State) (L : List Loc) (E : String) (ce : Cell), st₀.heap = H ∧ Stand p l e R s m args below meth c T' (locs ++ L) (cells + mc) (slots + ms) ∧ (∀ z ∈ L, free z.base) ∧ T'.heap = t.heap ∧ T'.vm = t.vm ∧ XC E st₀ t ∧ t.heap[q]? = some ce ∧ ce.vm = .none ∧ s.vm.findClass E = some ce.cls ∧
      Steps p.tables e below (T.setTop g) ((T'.setTop { g with stack := rest }).pushFrame (.throwing q)))
def vx_X {S : Type} (px : S → Prop) (B : String → S → State → Prop) (A : Nat → Prop) : String → State → State → Prop := fun E st t => ∃ u : S, px u ∧ B E u t ∧ va_F A st t
section Runs
variable {p : Program} {l : Launch} {e : Env} {R : Room} {s : State} {m : MethodId} {args : Array Value} {below : List Frame} {meth : Method} {c : Code} {H : Heap} {locs : List Loc} {cells slots : Nat}
variable {y : MethodName} {bytes cc : ByteArray} {maxL nL mc ms n index : Nat} {ret : Option FieldType} {ws : List Cond} {rm : Room} {Pc : Array Value → State → Prop} {Qc : Array Value → State → Outcome → State → Prop} {XC : String → State → State → Prop} {free : Addr → Prop} {Ts : List Cond} {own C : String} {b : Addr} {As rest : List Value} {g : JFrame}
theorem vx_callBack (cb : CallB R s args own index y bytes maxL ret ws rm mc ms n) (hM : vx_Met l y ws rm Pc Qc XC mc ms free) (hbl : FrameBlind Pc) : vx_Back l R p e below s args y 3 8 (PreOf R mc ms Pc) (PostOf Qc mc ms free) (vx_Post XC mc ms free) := by
  obtain ⟨hrc, hrs, hfr, hlo, hws, hcw, -, hini, -⟩ := cb
  exact vx_back (bytes := bytes) (maxL := maxL) (ret := ret) hM hbl hrc hrs hfr hlo hws hcw (fun a' U hW => word_at hW (Or.inl (by first | rfl | simp [Cond.onTables, Cond.keeps, Cond.steady])) hini)
theorem vx_runV (S : CallFix p m c cc nL s args Ts own) (hM : vx_Met l y ws rm Pc Qc XC mc ms free) (cw : CallW R s args own C index y bytes maxL ret ws rm mc ms n) (hp : PreV s H C b Pc As)
    (hg : g.method = m) (hn : As.length = n) (hsize : g.locals.size = nL) (hstack : g.stack = As.reverse ++ .ref b :: rest) (hW : 2 * g.monitorRoom + (rest.map fun v => v.category).sum ≤ 8) (hdg : decode cc g.pc = .ok (.invokevirtual index, 3)) (hf : cells + mc ≤ R.cells ∧ slots + ms ≤ R.slots) :
    vx_Run p l e R s m args below meth c H locs cells slots mc ms g rest (Qc (Value.ref b :: As).toArray) XC free := by
  have hK : vx_Back l R p e below s args y 3 8 (PreOf R mc ms Pc) (PostOf Qc mc ms free) (vx_Post XC mc ms free) := vx_callBack cw.1 hM hp.1
  obtain ⟨⟨-, -, -, -, -, -, hcode, -, hy, hlen, hl⟩, hin, hse⟩ := cw
  obtain ⟨hx, hb, hml, ho, -⟩ := S
  obtain ⟨-, ⟨cellB, hcB, hoB, hclB⟩, hPc⟩ := hp
  intro T hT X
  rcases vx_callV X hx (C := C) (bytes := bytes) (maxL := maxL) (ret := ret) ho hl hin hse hcode hy hK (by rw [hT]; exact hcB) hoB hclB hg (hsize.trans hml.symm) (argsL := As) (rest := rest) (fun sig h => hn.trans (hlen sig h)) hstack hW (by rw [hb]; exact hdg)
    (fun vm₁ hW₁ => ⟨hf.1, hf.2, hPc (T.setVm vm₁) hT hW₁⟩) with ⟨v, vm₁, ⟨U', l2, c2, s2⟩, hW₁, X', ⟨g', mk, t, L, e1, e2, hq, h1, hL, h2, h3⟩, st⟩ | ⟨q, vm₁, ⟨U', l2, c2, s2⟩, hW₁, X', ⟨g', mk, t, L, E, ce, e1, e2, hq, hce, hcv, hcl, h1, hL, h2, h3⟩, st⟩
  · dsimp only [Pt.U, Pt.locs, Pt.cells, Pt.slots] at X' e1 e2 h1 h2 h3 st
    subst h1; subst h2; subst h3
    exact Or.inl ⟨v, (T.setVm vm₁).calling g' mk (Value.ref b :: As).toArray, t, U', L, hT, X', hL, e1, e2, hq, st⟩
  · dsimp only [Pt.U, Pt.locs, Pt.cells, Pt.slots] at X' e1 e2 h1 h2 h3 st hcl
    subst h1; subst h2; subst h3
    exact Or.inr ⟨q, (T.setVm vm₁).calling g' mk (Value.ref b :: As).toArray, t, U', L, E, ce, hT, X', hL, e1, e2, hq, hce, hcv, vx_cls hW₁ hcl, st⟩
theorem vx_runS (S : CallFix p m c cc nL s args Ts own) (hM : vx_Met l y ws rm Pc Qc XC mc ms free) (cw : CallB R s args own index y bytes maxL ret ws rm mc ms n ∧ (Cond.static y).before args s = true) (hp : PreS s H Pc As)
    (hg : g.method = m) (hn : As.length = n) (hsize : g.locals.size = nL) (hstack : g.stack = As.reverse ++ rest) (hW : 2 * g.monitorRoom + (rest.map fun v => v.category).sum ≤ 8) (hdg : decode cc g.pc = .ok (.invokestatic index, 3)) (hf : cells + mc ≤ R.cells ∧ slots + ms ≤ R.slots) :
    vx_Run p l e R s m args below meth c H locs cells slots mc ms g rest (Qc As.toArray) XC free := by
  have hK : vx_Back l R p e below s args y 3 8 (PreOf R mc ms Pc) (PostOf Qc mc ms free) (vx_Post XC mc ms free) := vx_callBack cw.1 hM hp.1
  obtain ⟨⟨-, -, -, -, -, -, hcode, hini, hy, hlen, hl⟩, hstt⟩ := cw
  obtain ⟨hx, hb, hml, ho, -⟩ := S
  intro T hT X
  rcases vx_callS X hx (bytes := bytes) (maxL := maxL) (ret := ret) ho hl hstt hini hcode hy hK hg (hsize.trans hml.symm) (argsL := As) (rest := rest) (fun sig h => hn.trans (hlen sig h)) hstack hW (by rw [hb]; exact hdg)
    (fun vm₁ hW₁ => ⟨hf.1, hf.2, hp.2 (T.setVm vm₁) hT hW₁⟩) with ⟨v, vm₁, ⟨U', l2, c2, s2⟩, hW₁, X', ⟨g', mk, t, L, e1, e2, hq, h1, hL, h2, h3⟩, st⟩ | ⟨q, vm₁, ⟨U', l2, c2, s2⟩, hW₁, X', ⟨g', mk, t, L, E, ce, e1, e2, hq, hce, hcv, hcl, h1, hL, h2, h3⟩, st⟩
  · dsimp only [Pt.U, Pt.locs, Pt.cells, Pt.slots] at X' e1 e2 h1 h2 h3 st
    subst h1; subst h2; subst h3
    exact Or.inl ⟨v, (T.setVm vm₁).calling g' mk As.toArray, t, U', L, hT, X', hL, e1, e2, hq, st⟩
  · dsimp only [Pt.U, Pt.locs, Pt.cells, Pt.slots] at X' e1 e2 h1 h2 h3 st hcl
    subst h1; subst h2; subst h3
    exact Or.inr ⟨q, (T.setVm vm₁).calling g' mk As.toArray, t, U', L, E, ce, hT, X', hL, e1, e2, hq, hce, hcv, vx_cls hW₁ hcl, st⟩
end Runs
section Rows
variable {p : Program} {l : Launch} {e : Env} {R : Room} {s : State} {m : MethodId} {args : Array Value} {below : List Frame} {meth : Method} {c : Code} {H : Heap} {locs : List Loc} {cells slots : Nat} {Q : State → Prop}
variable {mc ms : Nat} {free : Addr → Prop} {A0 A1 : Nat → Prop} {H0 : Heap} {a : Array Value} {pc : Nat} {ls : Array Slot} {st0 rest : List Value}
theorem vx_keep {st₀ t T' : State} {L : List Loc} (h0 : st₀.heap = H) (e1 : T'.heap = t.heap) (hS : va_S A0 H0 H locs) (hA : ∀ q, q < H.size → A1 q → A0 q) (hf : ∀ q, free q → A0 q) (hL : ∀ q ∈ L, free q.base) (hF : va_F A1 st₀ t) :
    H.size ≤ T'.heap.size ∧ (∀ q : Nat, q < H.size → ¬ A1 q → T'.heap[q]? = H[q]?) ∧ va_S A0 H0 T'.heap (locs ++ L) := by
  obtain ⟨hz, hk⟩ := hF
  rw [h0] at hz hk
  exact ⟨by rw [e1]; exact hz, fun q h1 h2 => by rw [e1]; exact hk q h1 h2,
    ⟨Nat.le_trans hS.1 (by rw [e1]; exact hz), fun q h1 h2 => by rw [e1, hk q (Nat.lt_of_lt_of_le h1 hS.1) (fun z => h2 (hA q (Nat.lt_of_lt_of_le h1 hS.1) z))]; exact hS.2.1 q h1 h2, fun q hq => by
      rcases List.mem_append.mp hq with h | h
      · exact hS.2.2 q h
      · exact hf _ (hL q h)⟩⟩
theorem vx_calli {S SX : Type} {post : Int32 → S → Prop} {px : SX → Prop} {B : S → State → Prop} {BX : String → SX → State → Prop} {AX : Nat → Prop} (hr : vx_Run p l e R s m args below meth c H locs cells slots mc ms (F0 m pc ls st0) rest (va_Qi post B A1 a) (vx_X px BX AX) free) (hS : va_S A0 H0 H locs) (hA : ∀ q, q < H.size → A1 q → A0 q) (hf : ∀ q, free q → A0 q) (hAX : ∀ q, q < H.size → AX q → A0 q)
    (kx : ∀ (E : String) (ce : Cell) (q9 : Addr) (u : SX) (t : State) (H1 : Heap) (locs1 : List Loc), t.heap = H1 → s.vm.Alike t.vm → px u → BX E u t → H.size ≤ H1.size → (∀ q : Nat, q < H.size → ¬ AX q → H1[q]? = H[q]?) → va_S A0 H0 H1 locs1 → H1[q9]? = some ce → ce.vm = .none → s.vm.findClass E = some ce.cls → vx_W p l e R s m args below meth c H1 locs1 (cells + mc) (slots + ms) Q (F0 m pc ls rest) q9)
    (kk : ∀ (r : Int32) (u : S) (t : State) (H1 : Heap) (locs1 : List Loc), t.heap = H1 → s.vm.Alike t.vm → post r u → B u t → H.size ≤ H1.size → (∀ q : Nat, q < H.size → ¬ A1 q → H1[q]? = H[q]?) → va_S A0 H0 H1 locs1 → W p l e R s m args below meth c H1 locs1 (cells + mc) (slots + ms) Q (F0 m (pc + 3) ls (.int r :: rest))) : W p l e R s m args below meth c H locs cells slots Q (F0 m pc ls st0) := by
  intro T hT X
  rcases hr T hT X with ⟨v, st₀, t, T', L, h0, X', hL, e1, e2, ⟨⟨r, u, hv, hp, hb⟩, hF⟩, st⟩ | ⟨q, st₀, t, T', L, E, ce, h0, X', hL, e1, e2, ⟨u, hp, hb, hF⟩, hce, hcv, hcl, st⟩
  · cases hv
    obtain ⟨k1, k2, k3⟩ := vx_keep h0 e1 hS hA hf hL hF
    obtain ⟨t2, a1, b1⟩ := kk r u t T'.heap (locs ++ L) e1.symm (by rw [← e2]; exact X'.warmed.alike) hp hb k1 k2 k3 T' rfl X'
    exact ⟨t2, st t2 a1, b1⟩
  · obtain ⟨k1, k2, k3⟩ := vx_keep h0 e1 hS hAX hf hL hF
    obtain ⟨t2, a1, b1⟩ := kx E ce q u t T'.heap (locs ++ L) e1.symm (by rw [← e2]; exact X'.warmed.alike) hp hb k1 k2 k3 (by rw [e1]; exact hce) hcv hcl T' rfl X'
    exact ⟨t2, st.trans a1, b1⟩
theorem vx_calll {S SX : Type} {post : Int64 → S → Prop} {px : SX → Prop} {B : S → State → Prop} {BX : String → SX → State → Prop} {AX : Nat → Prop} (hr : vx_Run p l e R s m args below meth c H locs cells slots mc ms (F0 m pc ls st0) rest (va_Ql post B A1 a) (vx_X px BX AX) free) (hS : va_S A0 H0 H locs) (hA : ∀ q, q < H.size → A1 q → A0 q) (hf : ∀ q, free q → A0 q) (hAX : ∀ q, q < H.size → AX q → A0 q)
    (kx : ∀ (E : String) (ce : Cell) (q9 : Addr) (u : SX) (t : State) (H1 : Heap) (locs1 : List Loc), t.heap = H1 → s.vm.Alike t.vm → px u → BX E u t → H.size ≤ H1.size → (∀ q : Nat, q < H.size → ¬ AX q → H1[q]? = H[q]?) → va_S A0 H0 H1 locs1 → H1[q9]? = some ce → ce.vm = .none → s.vm.findClass E = some ce.cls → vx_W p l e R s m args below meth c H1 locs1 (cells + mc) (slots + ms) Q (F0 m pc ls rest) q9)
    (kk : ∀ (r : Int64) (u : S) (t : State) (H1 : Heap) (locs1 : List Loc), t.heap = H1 → s.vm.Alike t.vm → post r u → B u t → H.size ≤ H1.size → (∀ q : Nat, q < H.size → ¬ A1 q → H1[q]? = H[q]?) → va_S A0 H0 H1 locs1 → W p l e R s m args below meth c H1 locs1 (cells + mc) (slots + ms) Q (F0 m (pc + 3) ls (.long r :: rest))) : W p l e R s m args below meth c H locs cells slots Q (F0 m pc ls st0) := by
  intro T hT X
  rcases hr T hT X with ⟨v, st₀, t, T', L, h0, X', hL, e1, e2, ⟨⟨r, u, hv, hp, hb⟩, hF⟩, st⟩ | ⟨q, st₀, t, T', L, E, ce, h0, X', hL, e1, e2, ⟨u, hp, hb, hF⟩, hce, hcv, hcl, st⟩
  · cases hv
    obtain ⟨k1, k2, k3⟩ := vx_keep h0 e1 hS hA hf hL hF
    obtain ⟨t2, a1, b1⟩ := kk r u t T'.heap (locs ++ L) e1.symm (by rw [← e2]; exact X'.warmed.alike) hp hb k1 k2 k3 T' rfl X'
    exact ⟨t2, st t2 a1, b1⟩
  · obtain ⟨k1, k2, k3⟩ := vx_keep h0 e1 hS hAX hf hL hF
    obtain ⟨t2, a1, b1⟩ := kx E ce q u t T'.heap (locs ++ L) e1.symm (by rw [← e2]; exact X'.warmed.alike) hp hb k1 k2 k3 (by rw [e1]; exact hce) hcv hcl T' rfl X'
    exact ⟨t2, st.trans a1, b1⟩
theorem vx_callf {S SX : Type} {post : UInt32 → S → Prop} {px : SX → Prop} {B : S → State → Prop} {BX : String → SX → State → Prop} {AX : Nat → Prop} (hr : vx_Run p l e R s m args below meth c H locs cells slots mc ms (F0 m pc ls st0) rest (va_Qf post B A1 a) (vx_X px BX AX) free) (hS : va_S A0 H0 H locs) (hA : ∀ q, q < H.size → A1 q → A0 q) (hf : ∀ q, free q → A0 q) (hAX : ∀ q, q < H.size → AX q → A0 q)
    (kx : ∀ (E : String) (ce : Cell) (q9 : Addr) (u : SX) (t : State) (H1 : Heap) (locs1 : List Loc), t.heap = H1 → s.vm.Alike t.vm → px u → BX E u t → H.size ≤ H1.size → (∀ q : Nat, q < H.size → ¬ AX q → H1[q]? = H[q]?) → va_S A0 H0 H1 locs1 → H1[q9]? = some ce → ce.vm = .none → s.vm.findClass E = some ce.cls → vx_W p l e R s m args below meth c H1 locs1 (cells + mc) (slots + ms) Q (F0 m pc ls rest) q9)
    (kk : ∀ (r : UInt32) (u : S) (t : State) (H1 : Heap) (locs1 : List Loc), t.heap = H1 → s.vm.Alike t.vm → post r u → B u t → H.size ≤ H1.size → (∀ q : Nat, q < H.size → ¬ A1 q → H1[q]? = H[q]?) → va_S A0 H0 H1 locs1 → W p l e R s m args below meth c H1 locs1 (cells + mc) (slots + ms) Q (F0 m (pc + 3) ls (.float r :: rest))) : W p l e R s m args below meth c H locs cells slots Q (F0 m pc ls st0) := by
  intro T hT X
  rcases hr T hT X with ⟨v, st₀, t, T', L, h0, X', hL, e1, e2, ⟨⟨r, u, hv, hp, hb⟩, hF⟩, st⟩ | ⟨q, st₀, t, T', L, E, ce, h0, X', hL, e1, e2, ⟨u, hp, hb, hF⟩, hce, hcv, hcl, st⟩
  · cases hv
    obtain ⟨k1, k2, k3⟩ := vx_keep h0 e1 hS hA hf hL hF
    obtain ⟨t2, a1, b1⟩ := kk r u t T'.heap (locs ++ L) e1.symm (by rw [← e2]; exact X'.warmed.alike) hp hb k1 k2 k3 T' rfl X'
    exact ⟨t2, st t2 a1, b1⟩
  · obtain ⟨k1, k2, k3⟩ := vx_keep h0 e1 hS hAX hf hL hF
    obtain ⟨t2, a1, b1⟩ := kx E ce q u t T'.heap (locs ++ L) e1.symm (by rw [← e2]; exact X'.warmed.alike) hp hb k1 k2 k3 (by rw [e1]; exact hce) hcv hcl T' rfl X'
    exact ⟨t2, st.trans a1, b1⟩
theorem vx_calld {S SX : Type} {post : UInt64 → S → Prop} {px : SX → Prop} {B : S → State → Prop} {BX : String → SX → State → Prop} {AX : Nat → Prop} (hr : vx_Run p l e R s m args below meth c H locs cells slots mc ms (F0 m pc ls st0) rest (va_Qd post B A1 a) (vx_X px BX AX) free) (hS : va_S A0 H0 H locs) (hA : ∀ q, q < H.size → A1 q → A0 q) (hf : ∀ q, free q → A0 q) (hAX : ∀ q, q < H.size → AX q → A0 q)
    (kx : ∀ (E : String) (ce : Cell) (q9 : Addr) (u : SX) (t : State) (H1 : Heap) (locs1 : List Loc), t.heap = H1 → s.vm.Alike t.vm → px u → BX E u t → H.size ≤ H1.size → (∀ q : Nat, q < H.size → ¬ AX q → H1[q]? = H[q]?) → va_S A0 H0 H1 locs1 → H1[q9]? = some ce → ce.vm = .none → s.vm.findClass E = some ce.cls → vx_W p l e R s m args below meth c H1 locs1 (cells + mc) (slots + ms) Q (F0 m pc ls rest) q9)
    (kk : ∀ (r : UInt64) (u : S) (t : State) (H1 : Heap) (locs1 : List Loc), t.heap = H1 → s.vm.Alike t.vm → post r u → B u t → H.size ≤ H1.size → (∀ q : Nat, q < H.size → ¬ A1 q → H1[q]? = H[q]?) → va_S A0 H0 H1 locs1 → W p l e R s m args below meth c H1 locs1 (cells + mc) (slots + ms) Q (F0 m (pc + 3) ls (.double r :: rest))) : W p l e R s m args below meth c H locs cells slots Q (F0 m pc ls st0) := by
  intro T hT X
  rcases hr T hT X with ⟨v, st₀, t, T', L, h0, X', hL, e1, e2, ⟨⟨r, u, hv, hp, hb⟩, hF⟩, st⟩ | ⟨q, st₀, t, T', L, E, ce, h0, X', hL, e1, e2, ⟨u, hp, hb, hF⟩, hce, hcv, hcl, st⟩
  · cases hv
    obtain ⟨k1, k2, k3⟩ := vx_keep h0 e1 hS hA hf hL hF
    obtain ⟨t2, a1, b1⟩ := kk r u t T'.heap (locs ++ L) e1.symm (by rw [← e2]; exact X'.warmed.alike) hp hb k1 k2 k3 T' rfl X'
    exact ⟨t2, st t2 a1, b1⟩
  · obtain ⟨k1, k2, k3⟩ := vx_keep h0 e1 hS hAX hf hL hF
    obtain ⟨t2, a1, b1⟩ := kx E ce q u t T'.heap (locs ++ L) e1.symm (by rw [← e2]; exact X'.warmed.alike) hp hb k1 k2 k3 (by rw [e1]; exact hce) hcv hcl T' rfl X'
    exact ⟨t2, st.trans a1, b1⟩
theorem vx_callv {S SX : Type} {post : S → Prop} {px : SX → Prop} {B : S → State → Prop} {BX : String → SX → State → Prop} {AX : Nat → Prop} (hr : vx_Run p l e R s m args below meth c H locs cells slots mc ms (F0 m pc ls st0) rest (va_Qv post B A1 a) (vx_X px BX AX) free) (hS : va_S A0 H0 H locs) (hA : ∀ q, q < H.size → A1 q → A0 q) (hf : ∀ q, free q → A0 q) (hAX : ∀ q, q < H.size → AX q → A0 q)
    (kx : ∀ (E : String) (ce : Cell) (q9 : Addr) (u : SX) (t : State) (H1 : Heap) (locs1 : List Loc), t.heap = H1 → s.vm.Alike t.vm → px u → BX E u t → H.size ≤ H1.size → (∀ q : Nat, q < H.size → ¬ AX q → H1[q]? = H[q]?) → va_S A0 H0 H1 locs1 → H1[q9]? = some ce → ce.vm = .none → s.vm.findClass E = some ce.cls → vx_W p l e R s m args below meth c H1 locs1 (cells + mc) (slots + ms) Q (F0 m pc ls rest) q9)
    (kk : ∀ (u : S) (t : State) (H1 : Heap) (locs1 : List Loc), t.heap = H1 → s.vm.Alike t.vm → post u → B u t → H.size ≤ H1.size → (∀ q : Nat, q < H.size → ¬ A1 q → H1[q]? = H[q]?) → va_S A0 H0 H1 locs1 → W p l e R s m args below meth c H1 locs1 (cells + mc) (slots + ms) Q (F0 m (pc + 3) ls (rest))) : W p l e R s m args below meth c H locs cells slots Q (F0 m pc ls st0) := by
  intro T hT X
  rcases hr T hT X with ⟨v, st₀, t, T', L, h0, X', hL, e1, e2, ⟨⟨u, hv, hp, hb⟩, hF⟩, st⟩ | ⟨q, st₀, t, T', L, E, ce, h0, X', hL, e1, e2, ⟨u, hp, hb, hF⟩, hce, hcv, hcl, st⟩
  · cases hv
    obtain ⟨k1, k2, k3⟩ := vx_keep h0 e1 hS hA hf hL hF
    obtain ⟨t2, a1, b1⟩ := kk u t T'.heap (locs ++ L) e1.symm (by rw [← e2]; exact X'.warmed.alike) hp hb k1 k2 k3 T' rfl X'
    exact ⟨t2, st t2 a1, b1⟩
  · obtain ⟨k1, k2, k3⟩ := vx_keep h0 e1 hS hAX hf hL hF
    obtain ⟨t2, a1, b1⟩ := kx E ce q u t T'.heap (locs ++ L) e1.symm (by rw [← e2]; exact X'.warmed.alike) hp hb k1 k2 k3 (by rw [e1]; exact hce) hcv hcl T' rfl X'
    exact ⟨t2, st.trans a1, b1⟩
/-- caught by the row x of this method's table; the rows ahead don't take it -/
theorem vx_catch {own name : String} {E : String} {ce : Cell} {q : Addr} (hown : s.vm.findClass own = some m.cls) (pre : List ExceptionTableEntry) (x : ExceptionTableEntry) (suf : List ExceptionTableEntry) (hsplit : c.exceptionTable.toList = pre ++ x :: suf)
    (hpass : ∀ z ∈ pre, covers z pc = false ∨ (z.catchType ≠ 0 ∧ ∃ nm : String, (Cond.classLink own z.catchType nm).before args s = true ∧ va_Nc E nm s)) (hx : covers x pc = true) (h0 : x.catchType ≠ 0)
    (hlink : (Cond.classLink own x.catchType name).before args s = true) (hcast : (Cond.castable E name).before args s = true) (hcell : H[q]? = some ce) (hv : ce.vm = .none) (hcl : s.vm.findClass E = some ce.cls)
    (kk : W p l e R s m args below meth c H locs cells slots Q (F0 m x.handlerPc ls [.ref q])) : vx_W p l e R s m args below meth c H locs cells slots Q (F0 m pc ls rest) q := by
  intro T hT X
  have hpl : e.platform.magicAccessors = ({} : Platform).magicAccessors := by rw [X.admits.platform]
  obtain ⟨c3, c4, hc3, hc4, hasg⟩ := Cond.castable_spec hcast
  cases Option.some.inj (hc3.symm.trans hcl)
  obtain ⟨c5, hc5, hcl5⟩ := Cond.classLink_spec hown hlink e.platform hpl
  cases Option.some.inj (hc4.symm.trans hc5)
  obtain ⟨vm', X', st⟩ := X.thenCaughtThrough q (g := F0 m pc ls rest) rfl (Steps.refl _) (by rw [hT]; exact hcell) (by rw [hv]; rfl) (by obtain ⟨k9, h9, -⟩ := Vm.findClass_spec hcl; exact ⟨k9, h9⟩) pre x suf hsplit
    (fun z hz => by
      rcases hpass z hz with h | ⟨hz0, nm, hl1, hn1⟩
      · exact Or.inl h
      · obtain ⟨c6, hc6, hcl6⟩ := Cond.classLink_spec hown hl1 e.platform hpl
        obtain ⟨a8, b8, h1, h2, h3⟩ := hn1
        cases Option.some.inj (h1.symm.trans hcl)
        cases Option.some.inj (h2.symm.trans hc6)
        exact Or.inr ⟨hz0, _, hcl6, h3⟩) hx (Or.inr ⟨h0, c4, hcl5, hasg⟩)
  obtain ⟨t, a1, b1⟩ := kk (T.setVm vm') hT X'
  exact ⟨t, st.trans a1, b1⟩
end Rows
section Ends
variable {p : Program} {l : Launch} {e : Env} {R : Room} {s : State} {m : MethodId} {args : Array Value} {below : List Frame} {meth : Method} {c : Code} {H : Heap} {locs : List Loc} {cells slots : Nat} {Q : State → Prop}
variable {mc ms : Nat} {free : Addr → Prop} {A0 A1 : Nat → Prop} {H0 : Heap} {a : Array Value} {ls : Array Slot} {st0 rest : List Value}
variable {Qc : Array Value → State → Outcome → State → Prop} {XC : String → State → State → Prop}
/-- what a body that may throw owes at its end -/
def vx_MQ (below : List Frame) (Qc : Array Value → State → Outcome → State → Prop) (XC : String → State → State → Prop) (a : Array Value) (s : State) (mc ms : Nat) (free : Addr → Prop) : State → Prop := fun t =>
  ∃ o, t.status = .running ∧ Ended t below o ∧ vx_Q Qc XC mc ms free a s o t
theorem vx_ret {g : JFrame} {mc ms : Nat} (k : W p l e R s m args below meth c H locs cells slots (MQ below Qc args s mc ms free) g) : W p l e R s m args below meth c H locs cells slots (vx_MQ below Qc XC args s mc ms free) g := by
  intro T hT X
  obtain ⟨t, a1, o, b1, b2, b3, b4⟩ := k T hT X
  exact ⟨t, a1, o, b1, b2, Or.inl ⟨b3, b4⟩⟩
/-- not caught here: it goes on to the caller -/
theorem vx_widen {g : JFrame} {q : Addr} {k n : Nat} (h1 : cells ≤ k) (h2 : slots ≤ n) (kk : vx_W p l e R s m args below meth c H locs k n Q g q) : vx_W p l e R s m args below meth c H locs cells slots Q g q := fun T hT X => kk T hT (stand_widen X h1 h2)
theorem vx_out {pc : Nat} {E : String} {ce : Cell} {q : Addr} {mc ms : Nat} (hout : ∀ x ∈ c.exceptionTable.toList, covers x pc = false) (hlocks : meth.locks = false) (hcell : H[q]? = some ce) (hv : ce.vm = .none) (hcl : s.vm.findClass E = some ce.cls)
    (hx : ∀ t : State, t.heap = H → s.vm.Alike t.vm → XC E s t) (hf : ∀ z ∈ locs, free z.base) (hc : cells ≤ mc) (hs : slots ≤ ms) :
    vx_W p l e R s m args below meth c H locs cells slots (vx_MQ below Qc XC args s mc ms free) (F0 m pc ls rest) q := by
  intro T hT X
  obtain ⟨st1, hrun, hend, hW, hsm⟩ := X.leaveThrown q (g := F0 m pc ls rest) rfl rfl rfl hout hlocks
  have hcell9 : (T.setFrames (.throwing q :: below)).heap[q]? = some ce := by
    show T.heap[q]? = some ce
    rw [hT]; exact hcell
  exact ⟨_, st1, .threw q, hrun, hend, Or.inr ⟨q, rfl, E, ce, locs, hx _ hT hW.alike, hcell9, hv, hcl, hW, hsm.mono hc hs, hf⟩⟩
theorem vx_frame {U : State} {k n : Nat} (h : s.sameButNew ({ U with vm := s.vm } : State) locs k n) : s.heap.size ≤ U.heap.size ∧ ∀ q : Nat, q < s.heap.size → (∀ z ∈ locs, z.base ≠ q) → U.heap[q]? = s.heap[q]? := by
  obtain ⟨-, h2, -, -, -, h6⟩ := h
  refine ⟨h2, fun q hq hz => ?_⟩
  obtain ⟨c9, e1, e2, e3, e4⟩ := h6 q _ (Array.getElem?_eq_getElem hq)
  have hs : c9.slots = (s.heap[q]).slots := Array.ext_getElem? fun i => e4 i fun hm => hz _ hm rfl
  have h9 : c9 = s.heap[q] := by
    rw [hs] at e2
    exact e2
  have e5 : U.heap[q]? = some c9 := e1
  rw [e5, h9, Array.getElem?_eq_getElem hq]
/-- the words of a throw but the four that speak of the heap -/
def vx_no (w : Cond) : Bool := decide (w ≠ .isRef (.static Bundle.tN "UNASSIGNED_STACK" Bundle.steD)) && decide (w ≠ .isRef (.static Bundle.tN "SUPPRESSED_SENTINEL" Bundle.listD)) && decide (w ≠ .laysStatic Bundle.tN "UNASSIGNED_STACK" Bundle.steD) && decide (w ≠ .laysStatic Bundle.tN "SUPPRESSED_SENTINEL" Bundle.listD)
def vx_at0 (own : String) (ic : Nat) (X : String) (names : List String) : List Cond := (Bundle.ownAtoms0 own ic X names).filter vx_no
def vx_atS (own : String) (ic : Nat) (X : String) (names : List String) : List Cond := (Bundle.ownAtoms own ic X names).filter vx_no
/-- a word that the tables alone decide, or a good one -/
def vx_ot (w : Cond) : Bool := w.onTables || goodWord w
theorem vx_ot_at {args a' : Array Value} {s U : State} {w : Cond} (hW : s.WarmedH U.vm) (hvm : s.vm = U.vm) (hg : vx_ot w = true) (h : w.before args s = true) : w.before a' U = true := by
  simp only [vx_ot, Bool.or_eq_true] at hg
  rcases hg with hg | hg
  · exact va_tabs hg hvm h
  · exact word_at hW (good_of_word hg) h
/-- a list's words: the good ones out of the method's own list, the others by premises of their own -/
theorem vx_hat {args : Array Value} {s : State} {L B : List Cond} (h1 : ∀ w ∈ L.filter goodWord, w.before args s = true) (h2 : ∀ w ∈ L.filter (fun w => !goodWord w), w ∈ B) (h3 : ∀ w ∈ B, w.before args s = true) : ∀ w ∈ L, w.before args s = true := by
  intro w hw
  by_cases g : goodWord w = true
  · exact h1 w (List.mem_filter.mpr ⟨hw, g⟩)
  · refine h3 w (h2 w (List.mem_filter.mpr ⟨hw, ?_⟩))
    show (!goodWord w) = true
    cases hgw : goodWord w
    · rfl
    · exact absurd hgw g
theorem vx_c {args : Array Value} {s : State} {w : Cond} {B : List Cond} (h : w.before args s = true) (t : ∀ w ∈ B, w.before args s = true) : ∀ w' ∈ w :: B, w'.before args s = true := fun w' h' => (List.mem_cons.mp h').elim (fun e => by rw [e]; exact h) (t w')
theorem vx_n {args : Array Value} {s : State} : ∀ w ∈ ([] : List Cond), w.before args s = true := fun _ h => nomatch h
theorem vx_own {args : Array Value} {s : State} {L : List Cond} (h1 : ∀ w ∈ L.filter vx_no, w.before args s = true)
    (hU : (Cond.isRef (.static Bundle.tN "UNASSIGNED_STACK" Bundle.steD)).before args s = true) (hN : (Cond.isRef (.static Bundle.tN "SUPPRESSED_SENTINEL" Bundle.listD)).before args s = true)
    (lU : (Cond.laysStatic Bundle.tN "UNASSIGNED_STACK" Bundle.steD).before args s = true) (lN : (Cond.laysStatic Bundle.tN "SUPPRESSED_SENTINEL" Bundle.listD).before args s = true) : ∀ w ∈ L, w.before args s = true := by
  intro w hw
  by_cases e1 : w = .isRef (.static Bundle.tN "UNASSIGNED_STACK" Bundle.steD)
  · rw [e1]; exact hU
  · by_cases e2 : w = .isRef (.static Bundle.tN "SUPPRESSED_SENTINEL" Bundle.listD)
    · rw [e2]; exact hN
    · by_cases e3 : w = .laysStatic Bundle.tN "UNASSIGNED_STACK" Bundle.steD
      · rw [e3]; exact lU
      · by_cases e4 : w = .laysStatic Bundle.tN "SUPPRESSED_SENTINEL" Bundle.listD
        · rw [e4]; exact lN
        · exact h1 w (List.mem_filter.mpr ⟨hw, by unfold vx_no; rw [decide_eq_true e1, decide_eq_true e2, decide_eq_true e3, decide_eq_true e4]; rfl⟩)
/-- where a static field lies, its class's statics cell in H -/
def vx_L (C n d : String) (A : Nat → Prop) (U : State) (H : Heap) : Prop := ∃ (c : ClassId) (k : Class) (i : Nat) (f : Field) (a : Nat) (cell : Cell), U.vm.findClass C = some c ∧ U.fieldFound? C n d = some (c, k, i, f) ∧ f.isStatic = true ∧ k.statics = some a ∧ H[a]? = some cell ∧ cell.vm.isStatics = true ∧ cell.cls = c ∧ f.slot < cell.slots.size ∧ k.staticTypes[f.slot]? = some f.type ∧ ¬ A a
theorem vx_L.moved {C n d : String} {A : Nat → Prop} {u U : State} {H : Heap} (hvm : u.vm.Alike U.vm) (h : vx_L C n d A u H) : vx_L C n d A U H := by
  obtain ⟨c, k, i, f, a, cell, h1, h2, h3, h4, h5, h6, h7, h8, h9, h10⟩ := h
  obtain ⟨k', hi', he⟩ := State.fieldFound?_setVm hvm h2
  exact ⟨c, k', i, f, a, cell, by rw [hvm.findClass]; exact h1, hi', h3, by rw [he]; exact h4, h5, h6, h7, h8, by rw [he]; exact h9, h10⟩
theorem vx_L.kept {C n d : String} {A : Nat → Prop} {U : State} {H H1 : Heap} (h : vx_L C n d A U H) (hq : ∀ a : Nat, a < H.size → ¬ A a → H1[a]? = H[a]?) : vx_L C n d A U H1 := by
  obtain ⟨c, k, i, f, a, cell, h1, h2, h3, h4, h5, h6, h7, h8, h9, h10⟩ := h
  exact ⟨c, k, i, f, a, cell, h1, h2, h3, h4, by rw [hq a (Array.getElem?_eq_some_iff.mp h5).1 h10]; exact h5, h6, h7, h8, h9, h10⟩
theorem vx_L.narrow {C n d : String} {A B : Nat → Prop} {U : State} {H : Heap} (h : vx_L C n d A U H) (hAB : ∀ q, B q → A q) : vx_L C n d B U H := by
  obtain ⟨c, k, i, f, a, cell, h1, h2, h3, h4, h5, h6, h7, h8, h9, h10⟩ := h
  exact ⟨c, k, i, f, a, cell, h1, h2, h3, h4, h5, h6, h7, h8, h9, fun z => h10 (hAB _ z)⟩
theorem vx_L.word {C n d : String} {A : Nat → Prop} {s : State} {args : Array Value} (h : vx_L C n d A s s.heap) : (Cond.laysStatic C n d).before args s = true := by
  obtain ⟨c, k, i, f, a, cell, h1, h2, h3, h4, h5, h6, h7, h8, h9, -⟩ := h
  show (Cond.laysStatic C n d).holds args s none s [] = true
  exact Cond.laysStatic_of h1 h2 h3 h4 h5 h6 h7 h8 h9
/-- .. and what it holds: null or some reference -/
def vx_Zq (C n d : String) (A : Nat → Prop) (U : State) (H : Heap) : Prop := va_Zq C n d A U H ∧ vx_L C n d A U H
theorem vx_Zq.moved {C n d : String} {A : Nat → Prop} {u U : State} {H : Heap} (hvm : u.vm.Alike U.vm) (h : vx_Zq C n d A u H) : vx_Zq C n d A U H := ⟨va_Zq.moved hvm h.1, vx_L.moved hvm h.2⟩
theorem vx_Zq.kept {C n d : String} {A : Nat → Prop} {U : State} {H H1 : Heap} (h : vx_Zq C n d A U H) (hq : ∀ a : Nat, a < H.size → ¬ A a → H1[a]? = H[a]?) : vx_Zq C n d A U H1 := ⟨va_Zq.kept h.1 hq, vx_L.kept h.2 hq⟩
theorem vx_Zq.narrow {C n d : String} {A B : Nat → Prop} {U : State} {H : Heap} (h : vx_Zq C n d A U H) (hAB : ∀ q, B q → A q) : vx_Zq C n d B U H := ⟨va_Zq.narrow h.1 hAB, vx_L.narrow h.2 hAB⟩
theorem vx_Zqof {args : Array Value} {s : State} {C n d : String} {A : Nat → Prop} (hl : (Cond.laysStatic C n d).before args s = true) (hini : (Cond.initialized C).before args s = true) (h : (Cond.isRef (.static C n d)).before args s = true) (hA : ∀ a : Nat, a < s.heap.size → ¬ A a) : vx_Zq C n d A s s.heap := by
  refine ⟨va_Zqof hl hini h hA, ?_⟩
  obtain ⟨c, k, i, f, a, cell, h1, h2, h3, h4, h5, h6, h7, h8, h9⟩ := Cond.laysStatic_spec hl
  exact ⟨c, k, i, f, a, cell, h1, h2, h3, h4, h5, h6, h7, h8, h9, hA a (Array.getElem?_eq_some_iff.mp h5).1⟩
theorem vx_isRef {C n d : String} {v : Value} {A : Nat → Prop} {s : State} {args : Array Value} (h : va_Z C n d v A s s.heap) (hv : v.isRef = true) : (Cond.isRef (.static C n d)).before args s = true := by
  obtain ⟨cf, kf, fi, f, a, cell, h1, h2, h3, h4, h5, h6, h7, -⟩ := h
  have he : (Term.static C n d).eval args s none [] s = some v := by
    simp [Term.eval, State.fieldNamed?, h1, h2, h4, h5, h6, h7]
  simp only [Cond.before, Cond.holds, Cond.value, he]
  cases v <;> simp_all [Value.isRef]
theorem vx_isRefq {C n d : String} {A : Nat → Prop} {s : State} {args : Array Value} (h : va_Zq C n d A s s.heap) : (Cond.isRef (.static C n d)).before args s = true := by
  rcases h with h | ⟨t, h⟩
  · exact vx_isRef h rfl
  · exact vx_isRef h rfl
/-- the same frame, seen from here: as if the method were called anew in this heap -/
theorem vx_rebase {T : State} (X : Stand p l e R s m args below meth c T locs cells slots) {R' : Room} (hf : R'.frames ≤ R.frames) (hl : R'.locals ≤ R.locals) (hc : cells + R'.cells ≤ R.cells) (hs : slots + R'.slots ≤ R.slots) :
    Stand p l e R' ((T.setVm s.vm).setFrames (.invoking m args :: below)) m args below meth c T [] 0 0 := by
  have htop : (T.setVm s.vm).topJava?.isSome := X.here.top
  have hF : ((T.setVm s.vm).setFrames (.invoking m args :: below)).frames = .invoking m args :: below := State.frames_setFrames _ (State.cur_lt_of_top htop)
  obtain ⟨g₀, hg0⟩ := Option.isSome_iff_exists.mp htop
  obtain ⟨r, hr⟩ := State.topJava?_eq_some.mp hg0
  have hl9 : e.platform.stackLimits (T.setVm s.vm).me = e.platform.stackLimits s.me := X.limits
  have hb9 : (T.setVm s.vm).me.stackBytes = s.me.stackBytes := X.bytes
  refine ⟨X.admits, X.cas, X.clock, hF, ?_, X.hears, X.method, X.code, X.here, X.tail, X.warmed, ?_, ?_, ?_⟩
  · have h := X.room
    have hU : ((T.setVm s.vm).setFrames (.invoking m args :: below)).localsInUse = s.localsInUse := by
      rw [State.localsInUse_invoking hF (meth := meth) (c := c) X.method X.code, State.localsInUse_invoking X.frames X.method X.code]
    simp only [State.hasRoom, Bool.and_eq_true, decide_eq_true_eq] at h ⊢
    obtain ⟨⟨⟨⟨h1, h2, h3, h4, h5, h6⟩, h7⟩, h8⟩, h9⟩ := h
    rw [X.frames, List.length_cons] at h2 h3
    have q1 := X.heapSize
    have q2 := X.used
    simp only [hF, hU, List.length_cons, State.stackLimits_setFrames, State.stackBytes_setFrames, hl9, hb9]
    refine ⟨⟨⟨⟨by omega, by omega, by omega, by omega, by omega, h6⟩, ?_⟩, ?_⟩, X.book⟩
    · show T.heap.size + R'.cells ≤ e.platform.maxCells
      omega
    · show T.slotsUsed + R'.slots ≤ e.platform.maxSlots
      omega
  · rw [State.stackLimits_setFrames]; rfl
  · rw [State.stackBytes_setFrames]; rfl
  · refine ⟨?_, Nat.le_refl _, Nat.le_refl _, ?_, ?_, fun a c9 h9 => ⟨c9, h9, rfl, rfl, fun _ _ => rfl⟩⟩
    · obtain ⟨t, ht, -⟩ := State.frames_cons hr
      show T.setVm s.vm = { ((T.setVm s.vm).setFrames (.invoking m args :: below)).setFrames (T.setVm s.vm).frames with heap := T.heap, slotsUsed := T.slotsUsed }
      rw [State.setFrames_setFrames, State.setFrames_self ht]
      rfl
    · show T.slotsUsed = T.slotsUsed + ((T.heap.toList.drop T.heap.size).map (·.slots.size)).sum
      rw [List.drop_eq_nil_of_le (Nat.le_of_eq Array.length_toList)]
      rfl
    · show ((T.heap.toList.drop T.heap.size).map (·.slots.size)).sum ≤ 0
      rw [List.drop_eq_nil_of_le (Nat.le_of_eq Array.length_toList)]
      exact Nat.le_refl _
/-- 'throw new E()': new; dup; invokespecial; athrow -/
theorem vx_throw0 {cc : ByteArray} {pc : Nat} (hexec : p.tables.exec = Jvm.exec) (hb : c.code = cc) (hl : l.stackTraces = false) {own cls : String} {names : List String} {ik ic mc ms : Nat} {A : Nat → Prop}
    (hown : s.vm.findClass own = some m.cls) (hcls : Bundle.fit cls = true) (hnames : ∀ n ∈ names, Bundle.fit n = true)
    (hk : (Cond.classLink own ik cls).before args s = true) (hini : (Cond.initialized cls).before args s = true) (hat : ∀ w ∈ vx_at0 own ic cls names, w.before args s = true)
    (hgood : ∀ w ∈ Cond.classLink own ik cls :: Cond.initialized cls :: vx_at0 own ic cls names, vx_ot w = true)
    (hU : vx_Zq Bundle.tN "UNASSIGNED_STACK" Bundle.steD A s s.heap) (hN : vx_Zq Bundle.tN "SUPPRESSED_SENTINEL" Bundle.listD A s s.heap) (hS : va_S A s.heap H locs) (hsize : ls.size = c.maxLocals)
    (d0 : decode cc pc = .ok (.new ik, 3)) (d3 : decode cc (pc + 3) = .ok (.dup, 1)) (d4 : decode cc (pc + 4) = .ok (.invokespecial ic, 3)) (d7 : decode cc (pc + 7) = .ok (.athrow, 1))
    (hout : ∀ x ∈ c.exceptionTable.toList, covers x (pc + 7) = false)
    (hRframes : names.length + 3 < R.frames) (hRlocals : (rest.map fun v => v.category).sum + (13 * (names.length + 1) + 42) ≤ R.locals) (hRcells : cells + 1 ≤ R.cells) (hRslots : slots + 6 ≤ R.slots) (hlocks : meth.locks = false)
    (hx : ∀ t : State, s.vm.Alike t.vm → H.size ≤ t.heap.size → (∀ q : Nat, q < H.size → t.heap[q]? = H[q]?) → XC cls s t)
    (hf : ∀ z ∈ locs, free z.base) (hc : cells + 1 ≤ mc) (hs : slots + 6 ≤ ms) :
    W p l e R s m args below meth c H locs cells slots (vx_MQ below Qc XC args s mc ms free) (F0 m pc ls rest) := by
  intro T hT X
  have htr : e.platform.stackTraces = false := (show e.platform.stackTraces = l.stackTraces by rw [X.admits.platform]).trans hl
  have Y := vx_rebase X (R' := { frames := R.frames, locals := R.locals, cells := 1, slots := 6 }) (Nat.le_refl _) (Nat.le_refl _) hRcells hRslots
  obtain ⟨s', hA⟩ : ∃ z, z = (T.setVm s.vm).setFrames (.invoking m args :: below) := ⟨_, rfl⟩
  rw [← hA] at Y
  have hvm : s'.vm = s.vm := by rw [hA]; rfl
  have hhp : s'.heap = H := by rw [hA]; exact hT
  have hW0 : s.WarmedH s'.vm := by rw [hvm]; exact State.WarmedH.refl s
  have hat' : ∀ w ∈ vx_at0 own ic cls names, w.before args s' = true := fun w hw => vx_ot_at hW0 hvm.symm (hgood w (List.mem_cons_of_mem _ (List.mem_cons_of_mem _ hw))) (hat w hw)
  have hk' : (Cond.classLink own ik cls).before args s' = true := vx_ot_at hW0 hvm.symm (hgood _ List.mem_cons_self) hk
  have hini' : (Cond.initialized cls).before args s' = true := vx_ot_at hW0 hvm.symm (hgood _ (List.mem_cons_of_mem _ List.mem_cons_self)) hini
  have hU' : vx_Zq Bundle.tN "UNASSIGNED_STACK" Bundle.steD A s' s'.heap := by rw [hhp]; exact vx_Zq.moved hW0.alike (hU.kept hS.2.1)
  have hN' : vx_Zq Bundle.tN "SUPPRESSED_SENTINEL" Bundle.listD A s' s'.heap := by rw [hhp]; exact vx_Zq.moved hW0.alike (hN.kept hS.2.1)
  have h : ∀ w ∈ Bundle.ownAtoms0 own ic cls names, w.before args s' = true := vx_own hat' (vx_isRefq hU'.1) (vx_isRefq hN'.1) hU'.2.word hN'.2.word
  have hown' : s'.vm.findClass own = some m.cls := by rw [hvm]; exact hown
  have hins : (Cond.instantiable cls 6).before args s' = true := h _ (by simp [Bundle.ownAtoms0])
  obtain ⟨vm₁, cX, kX, hfX, hkX, -, -, X₁, st1⟩ := Y.newCold hexec (own := own) (C := cls) (index := ik) (n := 6) hown' hk' hins hini'
    (g := F0 m pc ls rest) rfl (by rw [hb]; exact d0) (Nat.le_refl _) (Nat.le_refl _)
  generalize hT1 : (T.setVm vm₁).pushCell { cls := cX, slots := kX.instanceTypes.map defaultValue, vm := .none } = T1 at X₁ st1
  have hcat : (Value.ref T.heap.size).category = 1 := rfl
  have hcellA : T1.heap[T.heap.size]? = some (freshCell cX kX) := by rw [← hT1]; exact State.heap_pushCell_size _ _
  have d3' : decode c.code (pc + 3) = .ok (.dup, 1) := by rw [hb]; exact d3
  obtain ⟨U, hsteps, hrun, hend, hW, hsame, ce, hce, hO⟩ := X₁.ctorThrow0 hexec htr (own := own) (cls := cls) (names := names) (ic := ic) hown' hcls hnames h (fun x hx => nomatch hx) hfX hkX hcellA (by rw [hhp, hT]; exact Nat.le_refl _)
    (g := { method := m, pc := pc + 4, locals := ls, stack := .ref T.heap.size :: .ref T.heap.size :: rest, locked := none }) rfl hsize rfl rfl (rest := rest) rfl
    (by rw [hb]; exact d4) (by rw [hb]; exact d7) hout hRframes (by simp only [List.map_cons, List.sum_cons, hcat]; omega) hlocks
  obtain ⟨f1, f2⟩ := vx_frame hsame
  rw [hhp] at f1 f2
  have hWs : s.WarmedH U.vm := State.WarmedH.trans hW0 hW
  have hcl : s.vm.findClass cls = some ce.cls := by
    have h9 := hO.cls
    rw [hvm] at h9
    exact h9
  have hall : s.sameButNew ({ U with vm := s.vm } : State) locs mc ms := by
    subst hA
    obtain ⟨e1, e2⟩ := hsame
    rw [State.setFrames_setFrames] at e1
    have h2 : (T.setVm s.vm).sameButNew ({ U with vm := s.vm } : State) [] (0 + 1) (0 + 6) := ⟨e1, e2⟩
    have h3 := X.same.trans h2
    rw [List.append_nil] at h3
    exact h3.mono hc hs
  refine ⟨U, ?_, .threw T.heap.size, hrun, hend, Or.inr ⟨T.heap.size, rfl, cls, ce, locs, hx U hWs.alike f1 (fun q hq => f2 q hq (fun z hz => nomatch hz)), hce, hO.vm, hcl, hWs, hall, hf⟩⟩
  refine st1 _ ?_
  show Steps p.tables e below (T1.setTop { method := m, pc := pc + 3, locals := ls, stack := .ref T.heap.size :: rest, locked := none }) _
  jvm_step X₁.here [X₁.here.top, hexec, d3', Value.category]
  exact hsteps
/-- 'throw new E("text")': new; dup; ldc; invokespecial; athrow -/
theorem vx_throwS {cc : ByteArray} {pc : Nat} (hexec : p.tables.exec = Jvm.exec) (hb : c.code = cc) (hl : l.stackTraces = false) {own cls text : String} {names : List String} {ik is ic mc ms sa : Nat} {A : Nat → Prop}
    (hown : s.vm.findClass own = some m.cls) (hcls : Bundle.fit cls = true) (hnames : ∀ n ∈ names, Bundle.fit n = true)
    (hk : (Cond.classLink own ik cls).before args s = true) (hini : (Cond.initialized cls).before args s = true) (hstr : vk_R own is text sa s) (hat : ∀ w ∈ vx_atS own ic cls names, w.before args s = true)
    (hgood : ∀ w ∈ Cond.classLink own ik cls :: Cond.initialized cls :: vx_atS own ic cls names, vx_ot w = true)
    (hU : vx_Zq Bundle.tN "UNASSIGNED_STACK" Bundle.steD A s s.heap) (hN : vx_Zq Bundle.tN "SUPPRESSED_SENTINEL" Bundle.listD A s s.heap) (hS : va_S A s.heap H locs) (hsize : ls.size = c.maxLocals)
    (d0 : decode cc pc = .ok (.new ik, 3)) (d3 : decode cc (pc + 3) = .ok (.dup, 1)) (d4 : decode cc (pc + 4) = .ok (.ldc is, 2)) (d6 : decode cc (pc + 6) = .ok (.invokespecial ic, 3)) (d9 : decode cc (pc + 9) = .ok (.athrow, 1))
    (hout : ∀ x ∈ c.exceptionTable.toList, covers x (pc + 9) = false)
    (hRframes : names.length + 3 < R.frames) (hRlocals : (rest.map fun v => v.category).sum + (13 * (names.length + 1) + 43) ≤ R.locals) (hRcells : cells + 1 ≤ R.cells) (hRslots : slots + 6 ≤ R.slots) (hlocks : meth.locks = false)
    (hx : ∀ t : State, s.vm.Alike t.vm → H.size ≤ t.heap.size → (∀ q : Nat, q < H.size → t.heap[q]? = H[q]?) → XC cls s t)
    (hf : ∀ z ∈ locs, free z.base) (hc : cells + 1 ≤ mc) (hs : slots + 6 ≤ ms) :
    W p l e R s m args below meth c H locs cells slots (vx_MQ below Qc XC args s mc ms free) (F0 m pc ls rest) := by
  intro T hT X
  have htr : e.platform.stackTraces = false := (show e.platform.stackTraces = l.stackTraces by rw [X.admits.platform]).trans hl
  have Y := vx_rebase X (R' := { frames := R.frames, locals := R.locals, cells := 1, slots := 6 }) (Nat.le_refl _) (Nat.le_refl _) hRcells hRslots
  obtain ⟨s', hA⟩ : ∃ z, z = (T.setVm s.vm).setFrames (.invoking m args :: below) := ⟨_, rfl⟩
  rw [← hA] at Y
  have hvm : s'.vm = s.vm := by rw [hA]; rfl
  have hhp : s'.heap = H := by rw [hA]; exact hT
  have hW0 : s.WarmedH s'.vm := by rw [hvm]; exact State.WarmedH.refl s
  have hat' : ∀ w ∈ vx_atS own ic cls names, w.before args s' = true := fun w hw => vx_ot_at hW0 hvm.symm (hgood w (List.mem_cons_of_mem _ (List.mem_cons_of_mem _ hw))) (hat w hw)
  have hk' : (Cond.classLink own ik cls).before args s' = true := vx_ot_at hW0 hvm.symm (hgood _ List.mem_cons_self) hk
  have hini' : (Cond.initialized cls).before args s' = true := vx_ot_at hW0 hvm.symm (hgood _ (List.mem_cons_of_mem _ List.mem_cons_self)) hini
  have hU' : vx_Zq Bundle.tN "UNASSIGNED_STACK" Bundle.steD A s' s'.heap := by rw [hhp]; exact vx_Zq.moved hW0.alike (hU.kept hS.2.1)
  have hN' : vx_Zq Bundle.tN "SUPPRESSED_SENTINEL" Bundle.listD A s' s'.heap := by rw [hhp]; exact vx_Zq.moved hW0.alike (hN.kept hS.2.1)
  have h : ∀ w ∈ Bundle.ownAtoms own ic cls names, w.before args s' = true := vx_own hat' (vx_isRefq hU'.1) (vx_isRefq hN'.1) hU'.2.word hN'.2.word
  have hown' : s'.vm.findClass own = some m.cls := by rw [hvm]; exact hown
  have hins : (Cond.instantiable cls 6).before args s' = true := h _ (by simp [Bundle.ownAtoms])
  obtain ⟨vm₁, cX, kX, hfX, hkX, -, -, X₁, st1⟩ := Y.newCold hexec (own := own) (C := cls) (index := ik) (n := 6) hown' hk' hins hini'
    (g := F0 m pc ls rest) rfl (by rw [hb]; exact d0) (Nat.le_refl _) (Nat.le_refl _)
  generalize hT1 : (T.setVm vm₁).pushCell { cls := cX, slots := kX.instanceTypes.map defaultValue, vm := .none } = T1 at X₁ st1
  have hcat : (Value.ref T.heap.size).category = 1 := rfl
  have hcellA : T1.heap[T.heap.size]? = some (freshCell cX kX) := by rw [← hT1]; exact State.heap_pushCell_size _ _
  have d3' : decode c.code (pc + 3) = .ok (.dup, 1) := by rw [hb]; exact d3
  have d4' : decode c.code (pc + 4) = .ok (.ldc is, 2) := by rw [hb]; exact d4
  have hstr' : vk_R own is text sa s' := vk_R.warm hW0 hstr
  obtain ⟨U, hsteps, hrun, hend, hW, hsame, ce, hce, hO⟩ := X₁.ctorThrowS hexec htr (own := own) (cls := cls) (names := names) (ic := ic) hown' hcls hnames h (fun x hx => nomatch hx) hfX hkX hcellA (by rw [hhp, hT]; exact Nat.le_refl _) (msg := .ref sa) rfl
    (g := { method := m, pc := pc + 6, locals := ls, stack := .ref sa :: .ref T.heap.size :: .ref T.heap.size :: rest, locked := none }) rfl hsize rfl rfl (rest := rest) rfl
    (by rw [hb]; exact d6) (by rw [hb]; exact d9) hout hRframes (by simp only [List.map_cons, List.sum_cons, hcat]; omega) hlocks
  obtain ⟨f1, f2⟩ := vx_frame hsame
  rw [hhp] at f1 f2
  have hWs : s.WarmedH U.vm := State.WarmedH.trans hW0 hW
  have hcl : s.vm.findClass cls = some ce.cls := by
    have h9 := hO.cls
    rw [hvm] at h9
    exact h9
  have hall : s.sameButNew ({ U with vm := s.vm } : State) locs mc ms := by
    subst hA
    obtain ⟨e1, e2⟩ := hsame
    rw [State.setFrames_setFrames] at e1
    have h2 : (T.setVm s.vm).sameButNew ({ U with vm := s.vm } : State) [] (0 + 1) (0 + 6) := ⟨e1, e2⟩
    have h3 := X.same.trans h2
    rw [List.append_nil] at h3
    exact h3.mono hc hs
  refine ⟨U, ?_, .threw T.heap.size, hrun, hend, Or.inr ⟨T.heap.size, rfl, cls, ce, locs, hx U hWs.alike f1 (fun q hq => f2 q hq (fun z hz => nomatch hz)), hce, hO.vm, hcl, hWs, hall, hf⟩⟩
  refine st1 _ ?_
  show Steps p.tables e below (T1.setTop { method := m, pc := pc + 3, locals := ls, stack := .ref T.heap.size :: rest, locked := none }) _
  jvm_step X₁.here [X₁.here.top, hexec, d3', Value.category]
  exact X₁.ldcString hexec (own := own) (text := text) (index := is) (a := sa) hown' hstr'.1 hstr'.2
    (g := { method := m, pc := pc + 4, locals := ls, stack := .ref T.heap.size :: .ref T.heap.size :: rest, locked := none }) rfl d4' _ hsteps
/-- 'throw new E("text")', the text by a wide index -/
theorem vx_throwSW {cc : ByteArray} {pc : Nat} (hexec : p.tables.exec = Jvm.exec) (hb : c.code = cc) (hl : l.stackTraces = false) {own cls text : String} {names : List String} {ik is ic mc ms sa : Nat} {A : Nat → Prop}
    (hown : s.vm.findClass own = some m.cls) (hcls : Bundle.fit cls = true) (hnames : ∀ n ∈ names, Bundle.fit n = true)
    (hk : (Cond.classLink own ik cls).before args s = true) (hini : (Cond.initialized cls).before args s = true) (hstr : vk_R own is text sa s) (hat : ∀ w ∈ vx_atS own ic cls names, w.before args s = true)
    (hgood : ∀ w ∈ Cond.classLink own ik cls :: Cond.initialized cls :: vx_atS own ic cls names, vx_ot w = true)
    (hU : vx_Zq Bundle.tN "UNASSIGNED_STACK" Bundle.steD A s s.heap) (hN : vx_Zq Bundle.tN "SUPPRESSED_SENTINEL" Bundle.listD A s s.heap) (hS : va_S A s.heap H locs) (hsize : ls.size = c.maxLocals)
    (d0 : decode cc pc = .ok (.new ik, 3)) (d3 : decode cc (pc + 3) = .ok (.dup, 1)) (d4 : decode cc (pc + 4) = .ok (.ldc_w is, 3)) (d7 : decode cc (pc + 7) = .ok (.invokespecial ic, 3)) (d10 : decode cc (pc + 10) = .ok (.athrow, 1))
    (hout : ∀ x ∈ c.exceptionTable.toList, covers x (pc + 10) = false)
    (hRframes : names.length + 3 < R.frames) (hRlocals : (rest.map fun v => v.category).sum + (13 * (names.length + 1) + 43) ≤ R.locals) (hRcells : cells + 1 ≤ R.cells) (hRslots : slots + 6 ≤ R.slots) (hlocks : meth.locks = false)
    (hx : ∀ t : State, s.vm.Alike t.vm → H.size ≤ t.heap.size → (∀ q : Nat, q < H.size → t.heap[q]? = H[q]?) → XC cls s t)
    (hf : ∀ z ∈ locs, free z.base) (hc : cells + 1 ≤ mc) (hs : slots + 6 ≤ ms) :
    W p l e R s m args below meth c H locs cells slots (vx_MQ below Qc XC args s mc ms free) (F0 m pc ls rest) := by
  intro T hT X
  have htr : e.platform.stackTraces = false := (show e.platform.stackTraces = l.stackTraces by rw [X.admits.platform]).trans hl
  have Y := vx_rebase X (R' := { frames := R.frames, locals := R.locals, cells := 1, slots := 6 }) (Nat.le_refl _) (Nat.le_refl _) hRcells hRslots
  obtain ⟨s', hA⟩ : ∃ z, z = (T.setVm s.vm).setFrames (.invoking m args :: below) := ⟨_, rfl⟩
  rw [← hA] at Y
  have hvm : s'.vm = s.vm := by rw [hA]; rfl
  have hhp : s'.heap = H := by rw [hA]; exact hT
  have hW0 : s.WarmedH s'.vm := by rw [hvm]; exact State.WarmedH.refl s
  have hat' : ∀ w ∈ vx_atS own ic cls names, w.before args s' = true := fun w hw => vx_ot_at hW0 hvm.symm (hgood w (List.mem_cons_of_mem _ (List.mem_cons_of_mem _ hw))) (hat w hw)
  have hk' : (Cond.classLink own ik cls).before args s' = true := vx_ot_at hW0 hvm.symm (hgood _ List.mem_cons_self) hk
  have hini' : (Cond.initialized cls).before args s' = true := vx_ot_at hW0 hvm.symm (hgood _ (List.mem_cons_of_mem _ List.mem_cons_self)) hini
  have hU' : vx_Zq Bundle.tN "UNASSIGNED_STACK" Bundle.steD A s' s'.heap := by rw [hhp]; exact vx_Zq.moved hW0.alike (hU.kept hS.2.1)
  have hN' : vx_Zq Bundle.tN "SUPPRESSED_SENTINEL" Bundle.listD A s' s'.heap := by rw [hhp]; exact vx_Zq.moved hW0.alike (hN.kept hS.2.1)
  have h : ∀ w ∈ Bundle.ownAtoms own ic cls names, w.before args s' = true := vx_own hat' (vx_isRefq hU'.1) (vx_isRefq hN'.1) hU'.2.word hN'.2.word
  have hown' : s'.vm.findClass own = some m.cls := by rw [hvm]; exact hown
  have hins : (Cond.instantiable cls 6).before args s' = true := h _ (by simp [Bundle.ownAtoms])
  obtain ⟨vm₁, cX, kX, hfX, hkX, -, -, X₁, st1⟩ := Y.newCold hexec (own := own) (C := cls) (index := ik) (n := 6) hown' hk' hins hini'
    (g := F0 m pc ls rest) rfl (by rw [hb]; exact d0) (Nat.le_refl _) (Nat.le_refl _)
  generalize hT1 : (T.setVm vm₁).pushCell { cls := cX, slots := kX.instanceTypes.map defaultValue, vm := .none } = T1 at X₁ st1
  have hcat : (Value.ref T.heap.size).category = 1 := rfl
  have hcellA : T1.heap[T.heap.size]? = some (freshCell cX kX) := by rw [← hT1]; exact State.heap_pushCell_size _ _
  have d3' : decode c.code (pc + 3) = .ok (.dup, 1) := by rw [hb]; exact d3
  have d4' : decode c.code (pc + 4) = .ok (.ldc_w is, 3) := by rw [hb]; exact d4
  have hstr' : vk_R own is text sa s' := vk_R.warm hW0 hstr
  obtain ⟨U, hsteps, hrun, hend, hW, hsame, ce, hce, hO⟩ := X₁.ctorThrowS hexec htr (own := own) (cls := cls) (names := names) (ic := ic) hown' hcls hnames h (fun x hx => nomatch hx) hfX hkX hcellA (by rw [hhp, hT]; exact Nat.le_refl _) (msg := .ref sa) rfl
    (g := { method := m, pc := pc + 7, locals := ls, stack := .ref sa :: .ref T.heap.size :: .ref T.heap.size :: rest, locked := none }) rfl hsize rfl rfl (rest := rest) rfl
    (by rw [hb]; exact d7) (by rw [hb]; exact d10) hout hRframes (by simp only [List.map_cons, List.sum_cons, hcat]; omega) hlocks
  obtain ⟨f1, f2⟩ := vx_frame hsame
  rw [hhp] at f1 f2
  have hWs : s.WarmedH U.vm := State.WarmedH.trans hW0 hW
  have hcl : s.vm.findClass cls = some ce.cls := by
    have h9 := hO.cls
    rw [hvm] at h9
    exact h9
  have hall : s.sameButNew ({ U with vm := s.vm } : State) locs mc ms := by
    subst hA
    obtain ⟨e1, e2⟩ := hsame
    rw [State.setFrames_setFrames] at e1
    have h2 : (T.setVm s.vm).sameButNew ({ U with vm := s.vm } : State) [] (0 + 1) (0 + 6) := ⟨e1, e2⟩
    have h3 := X.same.trans h2
    rw [List.append_nil] at h3
    exact h3.mono hc hs
  refine ⟨U, ?_, .threw T.heap.size, hrun, hend, Or.inr ⟨T.heap.size, rfl, cls, ce, locs, hx U hWs.alike f1 (fun q hq => f2 q hq (fun z hz => nomatch hz)), hce, hO.vm, hcl, hWs, hall, hf⟩⟩
  refine st1 _ ?_
  show Steps p.tables e below (T1.setTop { method := m, pc := pc + 3, locals := ls, stack := .ref T.heap.size :: rest, locked := none }) _
  jvm_step X₁.here [X₁.here.top, hexec, d3', Value.category]
  exact X₁.ldcStringW hexec (own := own) (text := text) (index := is) (a := sa) hown' hstr'.1 hstr'.2
    (g := { method := m, pc := pc + 4, locals := ls, stack := .ref T.heap.size :: .ref T.heap.size :: rest, locked := none }) rfl d4' _ hsteps
end Ends
section Bodies
variable {l : Launch}
theorem vx_ofW {y : MethodName} {ws ws' : List Cond} {rm : Room} {Pc : Array Value → State → Prop} {Qc : Array Value → State → Outcome → State → Prop} {XC : String → State → State → Prop} {mc ms : Nat} {free : Addr → Prop} {cc : ByteArray} {maxL : Nat} {ret : Option FieldType}
    (hy : plainName y.cls = true) (hw : ws = Cond.code y cc maxL ret :: ws')
    (body : ∀ p e s m args below meth c s₁, BodyLoose p l y (headSpec ws rm) cc maxL ret e s m args below meth c s₁ → c.maxLocals = maxL → (∀ x ∈ c.exceptionTable.toList, False) → Pc args s →
      W p l e (headSpec ws rm).room s m args below meth c s.heap [] 0 0 (vx_MQ below Qc XC args s mc ms free) (entryFrame m args maxL)) : vx_Met l y ws rm Pc Qc XC mc ms free := by
  refine MetFree.of_bodyS (code := cc) (maxLocals := maxL) (ret := ret) hy ?_ ?_
  · intro args s m h hn
    obtain ⟨meth, c, h1, h2, h3, h4, h5, h6, -, -⟩ := Cond.code_spec hn (atoms_spec (ws := ws) h _ (by rw [hw]; exact List.mem_cons_self))
    exact ⟨meth, c, h1, h2, h3, h4, h5, h6⟩
  · intro p e s m args below meth c s₁ B hml hP _
    have hh0 : s₁.heap = s.heap := by rw [B.state]; rfl
    have ht : ∀ x ∈ c.exceptionTable.toList, False := by
      obtain ⟨meth9, c9, h1, h2, -, -, -, -, h7, -⟩ := Cond.code_spec B.named (atoms_spec (ws := ws) B.pre _ (by rw [hw]; exact List.mem_cons_self))
      cases Option.some.inj (h1.symm.trans B.method)
      cases Option.some.inj (h2.symm.trans (Stand.of_body B).code)
      intro x hx
      rw [Array.isEmpty_iff.mp h7] at hx
      cases hx
    obtain ⟨t, a1, o, b1, b2, b3⟩ := body p e s m args below meth c s₁ B hml ht hP s₁ hh0 (Stand.of_body B)
    exact ⟨t, o, a1, b1, b2, b3⟩
/-- the table of a body with handlers -/
theorem vx_table {p : Program} {x y : MethodName} {S : Spec} {cc bytes : ByteArray} {maxL maxL' : Nat} {ret ret' : Option FieldType} {e : Env} {s s₁ : State} {m : MethodId} {args : Array Value} {below : List Frame} {meth : Method} {c : Code} {hh : List (Nat × Nat × Nat × Nat)}
    (B : BodyLoose p l y S cc maxL ret e s m args below meth c s₁) (h : (Cond.codeWith y bytes maxL' ret' hh).before args s = true) : c.exceptionTable.toList = tableOf hh := by
  obtain ⟨m9, meth9, c9, hn9, h1, h2, -, -, h6, -⟩ := Cond.codeWith_spec h
  cases Option.some.inj (hn9.symm.trans B.named)
  cases Option.some.inj (h1.symm.trans B.method)
  cases Option.some.inj (h2.symm.trans (Stand.of_body B).code)
  rw [← h6, table_eq]
end Bodies
end VXA
/-! ===== END ===== -/
/-! ===== BEGIN a static call of a method with an exception table ===== -/
section VXS
variable {p : Program} {l : Launch} {e : Env} {R : Room} {s : State} {m : MethodId} {args : Array Value} {below : List Frame} {meth : Method} {c : Code} {T : State} {H : Heap} {locs : List Loc} {cells slots : Nat}
abbrev vx_CSW (R : Room) (s : State) (args : Array Value) (own : String) (index : Nat) (y : MethodName) (bytes : ByteArray) (maxL : Nat) (ret : Option FieldType) (hh : List (Nat × Nat × Nat × Nat)) (ws : List Cond) (rm : Room) (mc ms n : Nat) : Prop :=
  (rm.cells = mc ∧ rm.slots = ms ∧ rm.frames + 1 ≤ R.frames ∧ 8 + (maxL + 11) + rm.locals ≤ R.locals ∧ (∀ w ∈ ws, ∀ (a' : Array Value) (U : State), s.WarmedH U.vm → w.before a' U = true) ∧ Cond.codeWith y bytes maxL ret hh ∈ ws) ∧
  (Cond.codeWith y bytes maxL ret hh).before args s = true ∧ (Cond.initialized y.cls).before args s = true ∧ (y.cls ≠ "java/lang/invoke/MethodHandle" ∧ y.cls ≠ "java/lang/invoke/VarHandle") ∧
  (∀ sig, parseMethodDescriptor y.desc = some sig → n = sig.parameters.length) ∧ (Cond.methodLink own index y).before args s = true ∧ (Cond.static y).before args s = true
theorem vx_cwSW {own : String} {index maxL mc ms : Nat} {y : MethodName} {bytes : ByteArray} {ret : Option FieldType} {hh : List (Nat × Nat × Nat × Nat)} {Ts ws ws' : List Cond} {rm : Room} (n : Nat) (ht : ∀ w ∈ Ts, w.before args s = true) (hT : GoodIn Ts (va_wsS own index y ws)) (hw : ws = Cond.codeWith y bytes maxL ret hh :: ws') (hrc : rm.cells = mc) (hrs : rm.slots = ms)
    (hd : y.cls ≠ "java/lang/invoke/MethodHandle" ∧ y.cls ≠ "java/lang/invoke/VarHandle" ∧ (parseMethodDescriptor y.desc).map (fun d => d.parameters.length) = some n) (hR : rm.frames + 1 ≤ R.frames ∧ 8 + (maxL + 11) + rm.locals ≤ R.locals) :
    vx_CSW R s args own index y bytes maxL ret hh ws rm mc ms n := by
  have ok : ∀ w ∈ va_wsS own index y ws, w.before args s = true := fun w h => ht w (hT w h).1
  have hG : GoodIn Ts ws := fun w h => hT w (by unfold va_wsS; exact List.mem_append_right _ h)
  have hc : Cond.codeWith y bytes maxL ret hh ∈ ws := by rw [hw]; exact List.mem_cons_self
  refine ⟨⟨hrc, hrs, hR.1, hR.2, pay_in ht hG, hc⟩, ht _ (hG _ hc).1, ok _ (by simp [va_wsS]), ⟨hd.1, hd.2.1⟩, fun sig h => ?_, ok _ (by simp [va_wsS]), ok _ (by simp [va_wsS])⟩
  have h2 := hd.2.2
  rw [h] at h2
  exact (Option.some.inj h2).symm
theorem vx_callSW (X : Stand p l e R s m args below meth c T locs cells slots) (hexec : p.tables.exec = Jvm.exec) {own : String} {index : Nat} {y : MethodName} {bytes : ByteArray} {maxL : Nat} {ret : Option FieldType} {hh : List (Nat × Nat × Nat × Nat)}
    (hown : s.vm.findClass own = some m.cls) (hlink : (Cond.methodLink own index y).before args s = true) (hstat : (Cond.static y).before args s = true) (hinit : (Cond.initialized y.cls).before args s = true)
    (hcode : (Cond.codeWith y bytes maxL ret hh).before args s = true) (hy : y.cls ≠ "java/lang/invoke/MethodHandle" ∧ y.cls ≠ "java/lang/invoke/VarHandle")
    {W9 : Nat} {Pre : Pt → Array Value → Prop} {Post : Pt → Array Value → Option Value → Pt → Prop} (hK : Back l R p e below s args y 3 W9 Pre Post)
    {g : JFrame} (hg : g.method = m) (hsize : g.locals.size = c.maxLocals) {argsL rest : List Value} (hlen : ∀ sig, parseMethodDescriptor y.desc = some sig → argsL.length = sig.parameters.length)
    (hstack : g.stack = argsL.reverse ++ rest) (hW : 2 * g.monitorRoom + (rest.map fun v => v.category).sum ≤ W9) (hdg : decode c.code g.pc = .ok (.invokestatic index, 3))
    (hpre : ∀ vm₁, s.WarmedH vm₁ → Pre ⟨T.setVm vm₁, locs, cells, slots⟩ argsL.toArray) :
    ∃ (v : Option Value) (vm₁ : Vm) (B : Pt), s.WarmedH vm₁ ∧ Stand p l e R s m args below meth c B.U B.locs B.cells B.slots ∧ Post ⟨T.setVm vm₁, locs, cells, slots⟩ argsL.toArray v B ∧
      ∀ target, Steps p.tables e below (B.U.setTop { g with pc := g.pc + 3, stack := v.toList ++ rest }) target → Steps p.tables e below (T.setTop g) target := by
  obtain ⟨mk, methM, cM, hnamed, hmethM, -, -, -, -, -, -, hsigM⟩ := Cond.codeWith_spec hcode
  have hstatic : methM.isStatic = true := Cond.static_spec hnamed hmethM hstat
  obtain ⟨kP, hkP, -⟩ := className_of_methodNamed hnamed
  have hinitP : kP.init = .initialized := Cond.initialized_spec (findClass_of_methodNamed hnamed) hkP hinit
  obtain ⟨vm₁, X₁, hstep₁⟩ := X.invokestatic hexec hown hlink hnamed hmethM hstatic hkP hinitP hy (g := g) hg (argsL := argsL) (rest := rest) (hlen _ hsigM) hstack hdg
  obtain ⟨v, B, X', hpost, hsteps⟩ := hK m meth c ⟨T.setVm vm₁, locs, cells, slots⟩ { g with stack := rest } (.invokestatic index) mk argsL.toArray X₁ hg hsize hdg hW (X₁.named hnamed) (hpre vm₁ X₁.warmed)
  exact ⟨v, vm₁, B, X₁.warmed, X', hpost, fun target h => hstep₁ _ fun acts => by rw [doInvoke_state]; exact hsteps.trans h⟩
theorem vx_runSW {y : MethodName} {bytes cc : ByteArray} {maxL nL mc ms n index : Nat} {ret : Option FieldType} {hh : List (Nat × Nat × Nat × Nat)} {ws : List Cond} {rm : Room} {Pc : Array Value → State → Prop} {Qc : Array Value → State → Outcome → State → Prop} {free : Addr → Prop} {Ts : List Cond} {own : String} {As rest : List Value} {g : JFrame}
    (S : CallFix p m c cc nL s args Ts own) (hM : Met l y ws rm Pc Qc mc ms free) (cw : vx_CSW R s args own index y bytes maxL ret hh ws rm mc ms n) (hp : PreS s H Pc As)
    (hg : g.method = m) (hn : As.length = n) (hsize : g.locals.size = nL) (hstack : g.stack = As.reverse ++ rest) (hW : 2 * g.monitorRoom + (rest.map fun v => v.category).sum ≤ 8) (hdg : decode cc g.pc = .ok (.invokestatic index, 3)) (hf : cells + mc ≤ R.cells ∧ slots + ms ≤ R.slots) :
    va_Run p l e R s m args below meth c H locs cells slots mc ms g rest (Qc As.toArray) (free) := by
  obtain ⟨⟨hrc, hrs, hfr, hlo, hws, hcw⟩, hcode, hini, hy, hlen, hl, hstt⟩ := cw
  have hK : Back l R p e below s args y 3 8 (PreOf R mc ms Pc) (PostOf Qc mc ms free) := va_backW (hh := hh) (bytes := bytes) (maxL := maxL) (ret := ret) hM hp.1 hrc hrs hfr hlo hws hcw (fun a' U hW => word_at hW (Or.inl (by first | rfl | simp [Cond.onTables, Cond.keeps, Cond.steady])) hini)
  obtain ⟨hx, hb, hml, ho, -⟩ := S
  intro T hT X
  obtain ⟨v, vm₁, ⟨U', l2, c2, s2⟩, hW₁, X', ⟨g', mk, t, L, e1, e2, hq, h1, hL, h2, h3⟩, st⟩ := vx_callSW X hx (hh := hh) (bytes := bytes) (maxL := maxL) (ret := ret) ho hl hstt hini hcode hy hK hg (hsize.trans hml.symm) (argsL := As) (rest := rest) (fun sig h => hn.trans (hlen sig h)) hstack hW (by rw [hb]; exact hdg)
    (fun vm₁ hW₁ => ⟨hf.1, hf.2, hp.2 (T.setVm vm₁) hT hW₁⟩)
  dsimp only [Pt.U, Pt.locs, Pt.cells, Pt.slots] at X' e1 e2 h1 h2 h3 st
  subst h1; subst h2; subst h3
  exact ⟨v, (T.setVm vm₁).calling g' mk As.toArray, t, U', L, hT, X', hL, e1, e2, hq, st⟩
/-- not caught here, past rows that name other classes: it goes on to the caller -/
theorem vx_outP {p : Program} {l : Launch} {e : Env} {R : Room} {s : State} {m : MethodId} {args : Array Value} {below : List Frame} {meth : Method} {c : Code} {H : Heap} {locs : List Loc} {cells slots : Nat} {free : Addr → Prop} {ls : Array Slot} {rest : List Value} {Qc : Array Value → State → Outcome → State → Prop} {XC : String → State → State → Prop}
    {pc : Nat} {own E : String} {ce : Cell} {q : Addr} {mc ms : Nat} (hown : s.vm.findClass own = some m.cls) (hlocks : meth.locks = false)
    (hpass : ∀ z ∈ c.exceptionTable.toList, covers z pc = false ∨ (z.catchType ≠ 0 ∧ ∃ nm : String, (Cond.classLink own z.catchType nm).before args s = true ∧ va_Nc E nm s)) (hcell : H[q]? = some ce) (hv : ce.vm = .none) (hcl : s.vm.findClass E = some ce.cls)
    (hx : ∀ t : State, t.heap = H → s.vm.Alike t.vm → XC E s t) (hf : ∀ z ∈ locs, free z.base) (hc : cells ≤ mc) (hs : slots ≤ ms) :
    vx_W p l e R s m args below meth c H locs cells slots (vx_MQ below Qc XC args s mc ms free) (F0 m pc ls rest) q := by
  intro T hT X
  have hpl : e.platform.magicAccessors = ({} : Platform).magicAccessors := by rw [X.admits.platform]
  obtain ⟨vm', hW', X', st⟩ := X.outThrough hlocks q (g := F0 m pc ls rest) rfl rfl rfl (cell := ce) (by rw [hT]; exact hcell) (by rw [hv]; rfl)
    (by obtain ⟨k9, h9, -⟩ := Vm.findClass_spec hcl; exact ⟨k9, h9⟩) (fun z hz => by
      rcases hpass z hz with h | ⟨hz0, nm, hl1, hn1⟩
      · exact Or.inl h
      · obtain ⟨c6, hc6, hcl6⟩ := Cond.classLink_spec hown hl1 e.platform hpl
        obtain ⟨a8, b8, h1, h2, h3⟩ := hn1
        cases Option.some.inj (h1.symm.trans hcl)
        cases Option.some.inj (h2.symm.trans hc6)
        exact Or.inr ⟨hz0, _, hcl6, h3⟩)
  obtain ⟨g₀, hfr⟩ := X'.frames_eq
  have hcell9 : ((T.setVm vm').setFrames (.throwing q :: below)).heap[q]? = some ce := by
    show T.heap[q]? = some ce
    rw [hT]; exact hcell
  have hend : Ended ((T.setVm vm').setFrames (.throwing q :: below)) below (.threw q) := State.frames_setFrames _ (State.cur_lt_of_frames hfr)
  refine ⟨(T.setVm vm').setFrames (.throwing q :: below), ?_, .threw q, X'.here.running, hend, Or.inr ⟨q, rfl, E, ce, locs, hx _ hT (X'.ends _).1.alike, hcell9, hv, hcl, (X'.ends _).1, (X'.ends _).2.mono hc hs, hf⟩⟩
  rw [X.pushThrowing_eq]
  exact st
/-- a thing of a world lies in the heap -/
theorem vx_lt {D : va_G} {cl : List vw_C} {ws : va_W} {H1 : Heap} (h : va_P D cl ws H1) {k : Nat} {q : Nat × va_E} (hk : ws[k]? = some q) : q.1 < H1.size := (h k q hk).lt
end VXS
/-! ===== END ===== -/
/-! ===== BEGIN methods with a table of their own: called by a name, returning or throwing ===== -/
section VXH
/-! vx_backW, vx_callVX, vx_callSX, vx_callVW, vx_runVW, vx_runVX, vx_runSX, vx_ofWH follow the same proofs as their sisters above (Free/Laws.lean, Shelf42/LK1.lean); vx_outP calls Shelf42/NT130.lean (outThrough). -/
section
variable {l : Launch} {R : Room} {p : Program} {e : Env} {below : List Frame} {s : State} {sargs : Array Value} {y : MethodName} {len W9 : Nat}
theorem vx_backW {ws : List Cond} {rm : Room} {Pc : Array Value → State → Prop} {Qc : Array Value → State → Outcome → State → Prop} {XC : String → State → State → Prop} {mc ms : Nat} {free : Addr → Prop} {bytes : ByteArray} {maxL : Nat} {ret : Option FieldType} {hh : List (Nat × Nat × Nat × Nat)}
    (hM : vx_Met l y ws rm Pc Qc XC mc ms free) (hblind : FrameBlind Pc) (hrc : rm.cells = mc) (hrs : rm.slots = ms)
    (hframes : rm.frames + 1 ≤ R.frames) (hlocals : W9 + (maxL + 11) + rm.locals ≤ R.locals)
    (hws : ∀ w ∈ ws, ∀ a' U, s.WarmedH U.vm → w.before a' U = true) (hcode : Cond.codeWith y bytes maxL ret hh ∈ ws) (hinit : ∀ a' U, s.WarmedH U.vm → (Cond.initialized y.cls).before a' U = true) :
    vx_Back l R p e below s sargs y len W9 (PreOf R mc ms Pc) (PostOf Qc mc ms free) (vx_Post XC mc ms free) := by
  intro m meth c A g ig mk a X hg hsize hdg hW hn hp
  have h1 : (headSpec ws rm).pre.before a A.U = true := atoms_intro fun w hw => hws w hw _ _ X.warmed
  have h2 : (Cond.codeWith y bytes maxL ret hh).before a A.U = true := hws _ hcode _ _ X.warmed
  have h3 : (Cond.initialized y.cls).before a A.U = true := hinit _ _ X.warmed
  have h4 : A.cells + (headSpec ws rm).room.cells ≤ R.cells := by rw [show (headSpec ws rm).room.cells = mc from hrc]; exact hp.1
  have h5 : A.slots + (headSpec ws rm).room.slots ≤ R.slots := by rw [show (headSpec ws rm).room.slots = ms from hrs]; exact hp.2.1
  have hPc : Pc a (A.U.calling g mk a) := hblind _ _ _ _ hp.2.2
  obtain ⟨U, Ls, c0, s0⟩ := A
  dsimp only [Pt.U, Pt.locs, Pt.cells, Pt.slots] at h1 h2 h3 h4 h5 X hn hPc ⊢
  obtain ⟨m9, methY, cY, hn9, hmY, hcY, -, hlY, -⟩ := Cond.codeWith_spec h2
  cases Option.some.inj (hn9.symm.trans hn)
  obtain ⟨kY, hkY, -⟩ := className_of_methodNamed hn
  have hinitY : kY.init = .initialized := Cond.initialized_spec (findClass_of_methodNamed hn) hkY h3
  have h : At U g.method c below := by rw [hg]; exact X.here
  have hlocals9 : W9 + (maxL + 11) + (headSpec ws rm).room.locals ≤ R.locals := hlocals
  have happ : (headSpec ws rm).appliesLoose y e.platform (U.calling g mk a) = true :=
    Spec.appliesLoose_calling (g := g) h hdg hn hkY hinitY
      (X.room_calling (g := g) (R' := (headSpec ws rm).room) hsize hmY hcY hframes (by rw [hlY]; omega) h4 h5) h1
  obtain ⟨mid, hmid⟩ := h.above
  have hfr : (U.setTop g).frames = (.java g :: mid) ++ below := by rw [State.frames_setTop' g h.top, hmid]; rfl
  obtain ⟨o, s₂, hsteps, -, hend, hq⟩ := Steps.callFree hM p X.admits X.cas X.clock (acts := []) hfr happ hPc trivial
  have hq' : vx_Q Qc XC mc ms free a (U.calling g mk a) o s₂ := hq
  rw [State.frames_setTop' g h.top] at hend
  obtain ⟨g₀, hg0⟩ := Option.isSome_iff_exists.mp h.top
  obtain ⟨r, hr⟩ := State.topJava?_eq_some.mp hg0
  have hr' : (({ U with heap := s₂.heap, slotsUsed := s₂.slotsUsed } : State).setVm s₂.vm).frames = .java g₀ :: r := hr
  rcases hq' with ⟨hqc, L, hfe, hL⟩ | ⟨q, rfl, E, ce, L, hx, hce, hcv, hcl, hW₂, hsm, hL⟩
  · obtain ⟨⟨v, rfl⟩, hW₂, e2, q2, q3, q4, q5, q6⟩ := id hfe
    have e3 : s₂ = ({ (U.calling g mk a).setFrames s₂.frames with heap := s₂.heap, slotsUsed := s₂.slotsUsed } : State).setVm s₂.vm := by
      have : s₂ = ({ s₂ with vm := (U.calling g mk a).vm } : State).setVm s₂.vm := rfl
      rw [e2] at this
      exact this
    obtain ⟨c₂, i₂, len₂, hc₂, hd₂, hf₂⟩ := hend
    have hW' : U.WarmedH s₂.vm := hW₂
    have hcc : c₂ = c := by
      have h1 : s₂.code? g.method = U.code? g.method := by
        rw [State.code?_eq, State.code?_eq, hW'.alike.method?]
      exact Option.some.inj (hc₂.symm.trans (h1.trans h.code))
    subst hcc
    have hlen : len₂ = len := by rw [hdg] at hd₂; cases hd₂; rfl
    subst hlen
    have hs₂ : s₂ = (({ U with heap := s₂.heap, slotsUsed := s₂.slotsUsed } : State).setVm s₂.vm).setTop { g with pc := g.pc + len₂, stack := v.toList ++ g.stack } := by
      refine e3.trans ?_
      rw [hf₂, State.calling_eq h.top, State.setFrames_setFrames, State.setTop_of_frames _ hr', hr]
      rfl
    have hsame : U.sameButNew ({ U with heap := s₂.heap, slotsUsed := s₂.slotsUsed } : State) L mc ms := by
      refine ⟨?_, q2, q3, q4, q5, q6⟩
      obtain ⟨t, ht, -⟩ := State.frames_cons hr
      show ({ U with heap := s₂.heap, slotsUsed := s₂.slotsUsed } : State) = { U.setFrames U.frames with heap := s₂.heap, slotsUsed := s₂.slotsUsed }
      rw [State.setFrames_self ht]
    subst hg
    refine Or.inl ⟨v, ⟨(({ U with heap := s₂.heap, slotsUsed := s₂.slotsUsed } : State).setVm s₂.vm), Ls ++ L, c0 + mc, s0 + ms⟩,
      ⟨X.admits, X.cas, X.clock, X.frames, X.room, X.hears, X.method, X.code, (X.here.setHeapUsed s₂.heap s₂.slotsUsed).setVm hW'.alike, X.tail, State.WarmedH.trans X.warmed hW', X.limits, X.bytes, X.same.trans (hsame.setVm s.vm)⟩,
      ⟨g, mk, s₂, L, rfl, rfl, hqc, rfl, hL, rfl, rfl⟩, ?_⟩
    show Steps p.tables e below _ ((({ U with heap := s₂.heap, slotsUsed := s₂.slotsUsed } : State).setVm s₂.vm).setTop { g with pc := g.pc + len₂, stack := v.toList ++ g.stack })
    rw [← hs₂]
    exact hsteps
  · obtain ⟨e2, q2, q3, q4, q5, q6⟩ := id hsm
    have e3 : s₂ = ({ (U.calling g mk a).setFrames s₂.frames with heap := s₂.heap, slotsUsed := s₂.slotsUsed } : State).setVm s₂.vm := by
      have : s₂ = ({ s₂ with vm := (U.calling g mk a).vm } : State).setVm s₂.vm := rfl
      rw [e2] at this
      exact this
    have hf₂ : s₂.frames = .throwing q :: .java g :: U.frames.tail := hend
    have hW' : U.WarmedH s₂.vm := hW₂
    have hs₂ : s₂ = ((({ U with heap := s₂.heap, slotsUsed := s₂.slotsUsed } : State).setVm s₂.vm).setTop g).pushFrame (.throwing q) := by
      refine e3.trans ?_
      rw [hf₂, State.calling_eq h.top, State.setFrames_setFrames, State.pushFrame, State.frames_setTop _ hr', State.setTop_of_frames _ hr', State.setFrames_setFrames, hr]
      rfl
    have hsame : U.sameButNew ({ U with heap := s₂.heap, slotsUsed := s₂.slotsUsed } : State) L mc ms := by
      refine ⟨?_, q2, q3, q4, q5, q6⟩
      obtain ⟨t, ht, -⟩ := State.frames_cons hr
      show ({ U with heap := s₂.heap, slotsUsed := s₂.slotsUsed } : State) = { U.setFrames U.frames with heap := s₂.heap, slotsUsed := s₂.slotsUsed }
      rw [State.setFrames_self ht]
    subst hg
    refine Or.inr ⟨q, ⟨(({ U with heap := s₂.heap, slotsUsed := s₂.slotsUsed } : State).setVm s₂.vm), Ls ++ L, c0 + mc, s0 + ms⟩,
      ⟨X.admits, X.cas, X.clock, X.frames, X.room, X.hears, X.method, X.code, (X.here.setHeapUsed s₂.heap s₂.slotsUsed).setVm hW'.alike, X.tail, State.WarmedH.trans X.warmed hW', X.limits, X.bytes, X.same.trans (hsame.setVm s.vm)⟩,
      ⟨g, mk, s₂, L, E, ce, rfl, rfl, hx, hce, hcv, hcl, rfl, hL, rfl, rfl⟩, ?_⟩
    show Steps p.tables e below _ (((({ U with heap := s₂.heap, slotsUsed := s₂.slotsUsed } : State).setVm s₂.vm).setTop g).pushFrame (.throwing q))
    rw [← hs₂]
    exact hsteps
end
variable {p : Program} {l : Launch} {e : Env} {R : Room} {s : State} {m : MethodId} {args : Array Value} {below : List Frame} {meth : Method} {c : Code} {T : State} {H : Heap} {locs : List Loc} {cells slots : Nat}
theorem vx_callVX (X : Stand p l e R s m args below meth c T locs cells slots) (hexec : p.tables.exec = Jvm.exec) {own C : String} {index : Nat} {y : MethodName} {bytes : ByteArray} {maxL : Nat} {ret : Option FieldType} {hh : List (Nat × Nat × Nat × Nat)}
    (hown : s.vm.findClass own = some m.cls) (hlink : (Cond.methodLink own index y).before args s = true) (hinst : (Cond.instanceMethod y).before args s = true) (hsel : (Cond.selects C y y).before args s = true)
    (hcode : (Cond.codeWith y bytes maxL ret hh).before args s = true) (hy : y.cls ≠ "java/lang/invoke/MethodHandle" ∧ y.cls ≠ "java/lang/invoke/VarHandle")
    {W9 : Nat} {Pre : Pt → Array Value → Prop} {Post : Pt → Array Value → Option Value → Pt → Prop} {PostX : Pt → Array Value → Addr → Pt → Prop} (hK : vx_Back l R p e below s args y 3 W9 Pre Post PostX)
    {b : Addr} {cellB : Cell} (hcell : T.heap[b]? = some cellB) (hobj : cellB.vm.isStatics = false) (hcls : s.vm.findClass C = some cellB.cls)
    {g : JFrame} (hg : g.method = m) (hsize : g.locals.size = c.maxLocals) {argsL rest : List Value} (hlen : ∀ sig, parseMethodDescriptor y.desc = some sig → argsL.length = sig.parameters.length)
    (hstack : g.stack = argsL.reverse ++ .ref b :: rest) (hW : 2 * g.monitorRoom + (rest.map fun v => v.category).sum ≤ W9) (hdg : decode c.code g.pc = .ok (.invokevirtual index, 3))
    (hpre : ∀ vm₁, s.WarmedH vm₁ → Pre ⟨T.setVm vm₁, locs, cells, slots⟩ (Value.ref b :: argsL).toArray) :
    (∃ (v : Option Value) (vm₁ : Vm) (B : Pt), s.WarmedH vm₁ ∧ Stand p l e R s m args below meth c B.U B.locs B.cells B.slots ∧ Post ⟨T.setVm vm₁, locs, cells, slots⟩ (Value.ref b :: argsL).toArray v B ∧
      ∀ target, Steps p.tables e below (B.U.setTop { g with pc := g.pc + 3, stack := v.toList ++ rest }) target → Steps p.tables e below (T.setTop g) target) ∨
    (∃ (q : Addr) (vm₁ : Vm) (B : Pt), s.WarmedH vm₁ ∧ Stand p l e R s m args below meth c B.U B.locs B.cells B.slots ∧ PostX ⟨T.setVm vm₁, locs, cells, slots⟩ (Value.ref b :: argsL).toArray q B ∧
      Steps p.tables e below (T.setTop g) ((B.U.setTop { g with stack := rest }).pushFrame (.throwing q))) := by
  obtain ⟨mk, methM, hnamed, hmethM, hstM, habM⟩ := Cond.instanceMethod_spec hinst
  obtain ⟨m8, methM', cM, hn8, hmethM', -, -, -, -, -, -, hsigM⟩ := Cond.codeWith_spec hcode
  cases Option.some.inj (hn8.symm.trans hnamed)
  cases hmethM.symm.trans hmethM'
  obtain ⟨c2, r2, m2, q1, q2, q3, q4, kP, hkP, hkPi⟩ := Cond.selects_spec hsel
  cases hcls.symm.trans q1
  cases (State.methodFound?_of_named hnamed hy).symm.trans q2
  cases hnamed.symm.trans q3
  have hselP : selectMethod e.platform s.vm cellB.cls mk = .method mk := by rw [Launch.admits_selectMethod X.admits]; exact q4
  obtain ⟨vm₁, X₁, hstep₁⟩ := X.invokevirtual hexec hown hlink hnamed hmethM hstM hkP hkPi hy (a := b) (cell := cellB) hcell
    (fun z h => by rw [h] at hobj; cases hobj) hselP hmethM habM hkP hkPi (g := g) hg (argsL := argsL) (rest := rest) (hlen _ hsigM) hstack hdg
  rcases hK m meth c ⟨T.setVm vm₁, locs, cells, slots⟩ { g with stack := rest } (.invokevirtual index) mk (Value.ref b :: argsL).toArray X₁ hg hsize hdg hW (X₁.named hnamed) (hpre vm₁ X₁.warmed) with ⟨v, B, X', hpost, hsteps⟩ | ⟨q, B, X', hpost, hsteps⟩
  · exact Or.inl ⟨v, vm₁, B, X₁.warmed, X', hpost, fun target h => hstep₁ _ fun acts => by rw [doInvoke_state]; exact hsteps.trans h⟩
  · exact Or.inr ⟨q, vm₁, B, X₁.warmed, X', hpost, hstep₁ _ fun acts => by rw [doInvoke_state]; exact hsteps⟩
theorem vx_callSX (X : Stand p l e R s m args below meth c T locs cells slots) (hexec : p.tables.exec = Jvm.exec) {own : String} {index : Nat} {y : MethodName} {bytes : ByteArray} {maxL : Nat} {ret : Option FieldType} {hh : List (Nat × Nat × Nat × Nat)}
    (hown : s.vm.findClass own = some m.cls) (hlink : (Cond.methodLink own index y).before args s = true) (hstat : (Cond.static y).before args s = true) (hinit : (Cond.initialized y.cls).before args s = true)
    (hcode : (Cond.codeWith y bytes maxL ret hh).before args s = true) (hy : y.cls ≠ "java/lang/invoke/MethodHandle" ∧ y.cls ≠ "java/lang/invoke/VarHandle")
    {W9 : Nat} {Pre : Pt → Array Value → Prop} {Post : Pt → Array Value → Option Value → Pt → Prop} {PostX : Pt → Array Value → Addr → Pt → Prop} (hK : vx_Back l R p e below s args y 3 W9 Pre Post PostX)
    {g : JFrame} (hg : g.method = m) (hsize : g.locals.size = c.maxLocals) {argsL rest : List Value} (hlen : ∀ sig, parseMethodDescriptor y.desc = some sig → argsL.length = sig.parameters.length)
    (hstack : g.stack = argsL.reverse ++ rest) (hW : 2 * g.monitorRoom + (rest.map fun v => v.category).sum ≤ W9) (hdg : decode c.code g.pc = .ok (.invokestatic index, 3))
    (hpre : ∀ vm₁, s.WarmedH vm₁ → Pre ⟨T.setVm vm₁, locs, cells, slots⟩ argsL.toArray) :
    (∃ (v : Option Value) (vm₁ : Vm) (B : Pt), s.WarmedH vm₁ ∧ Stand p l e R s m args below meth c B.U B.locs B.cells B.slots ∧ Post ⟨T.setVm vm₁, locs, cells, slots⟩ argsL.toArray v B ∧
      ∀ target, Steps p.tables e below (B.U.setTop { g with pc := g.pc + 3, stack := v.toList ++ rest }) target → Steps p.tables e below (T.setTop g) target) ∨
    (∃ (q : Addr) (vm₁ : Vm) (B : Pt), s.WarmedH vm₁ ∧ Stand p l e R s m args below meth c B.U B.locs B.cells B.slots ∧ PostX ⟨T.setVm vm₁, locs, cells, slots⟩ argsL.toArray q B ∧
      Steps p.tables e below (T.setTop g) ((B.U.setTop { g with stack := rest }).pushFrame (.throwing q))) := by
  obtain ⟨mk, methM, cM, hnamed, hmethM, -, -, -, -, -, -, hsigM⟩ := Cond.codeWith_spec hcode
  have hstatic : methM.isStatic = true := Cond.static_spec hnamed hmethM hstat
  obtain ⟨kP, hkP, -⟩ := className_of_methodNamed hnamed
  have hinitP : kP.init = .initialized := Cond.initialized_spec (findClass_of_methodNamed hnamed) hkP hinit
  obtain ⟨vm₁, X₁, hstep₁⟩ := X.invokestatic hexec hown hlink hnamed hmethM hstatic hkP hinitP hy (g := g) hg (argsL := argsL) (rest := rest) (hlen _ hsigM) hstack hdg
  rcases hK m meth c ⟨T.setVm vm₁, locs, cells, slots⟩ { g with stack := rest } (.invokestatic index) mk argsL.toArray X₁ hg hsize hdg hW (X₁.named hnamed) (hpre vm₁ X₁.warmed) with ⟨v, B, X', hpost, hsteps⟩ | ⟨q, B, X', hpost, hsteps⟩
  · exact Or.inl ⟨v, vm₁, B, X₁.warmed, X', hpost, fun target h => hstep₁ _ fun acts => by rw [doInvoke_state]; exact hsteps.trans h⟩
  · exact Or.inr ⟨q, vm₁, B, X₁.warmed, X', hpost, hstep₁ _ fun acts => by rw [doInvoke_state]; exact hsteps⟩
theorem vx_callVW (X : Stand p l e R s m args below meth c T locs cells slots) (hexec : p.tables.exec = Jvm.exec) {own C : String} {index : Nat} {y : MethodName} {bytes : ByteArray} {maxL : Nat} {ret : Option FieldType} {hh : List (Nat × Nat × Nat × Nat)}
    (hown : s.vm.findClass own = some m.cls) (hlink : (Cond.methodLink own index y).before args s = true) (hinst : (Cond.instanceMethod y).before args s = true) (hsel : (Cond.selects C y y).before args s = true)
    (hcode : (Cond.codeWith y bytes maxL ret hh).before args s = true) (hy : y.cls ≠ "java/lang/invoke/MethodHandle" ∧ y.cls ≠ "java/lang/invoke/VarHandle")
    {W9 : Nat} {Pre : Pt → Array Value → Prop} {Post : Pt → Array Value → Option Value → Pt → Prop} (hK : Back l R p e below s args y 3 W9 Pre Post)
    {b : Addr} {cellB : Cell} (hcell : T.heap[b]? = some cellB) (hobj : cellB.vm.isStatics = false) (hcls : s.vm.findClass C = some cellB.cls)
    {g : JFrame} (hg : g.method = m) (hsize : g.locals.size = c.maxLocals) {argsL rest : List Value} (hlen : ∀ sig, parseMethodDescriptor y.desc = some sig → argsL.length = sig.parameters.length)
    (hstack : g.stack = argsL.reverse ++ .ref b :: rest) (hW : 2 * g.monitorRoom + (rest.map fun v => v.category).sum ≤ W9) (hdg : decode c.code g.pc = .ok (.invokevirtual index, 3))
    (hpre : ∀ vm₁, s.WarmedH vm₁ → Pre ⟨T.setVm vm₁, locs, cells, slots⟩ (Value.ref b :: argsL).toArray) :
    ∃ (v : Option Value) (vm₁ : Vm) (B : Pt), s.WarmedH vm₁ ∧ Stand p l e R s m args below meth c B.U B.locs B.cells B.slots ∧ Post ⟨T.setVm vm₁, locs, cells, slots⟩ (Value.ref b :: argsL).toArray v B ∧
      ∀ target, Steps p.tables e below (B.U.setTop { g with pc := g.pc + 3, stack := v.toList ++ rest }) target → Steps p.tables e below (T.setTop g) target := by
  obtain ⟨mk, methM, hnamed, hmethM, hstM, habM⟩ := Cond.instanceMethod_spec hinst
  obtain ⟨m8, methM', cM, hn8, hmethM', -, -, -, -, -, -, hsigM⟩ := Cond.codeWith_spec hcode
  cases Option.some.inj (hn8.symm.trans hnamed)
  cases hmethM.symm.trans hmethM'
  obtain ⟨c2, r2, m2, q1, q2, q3, q4, kP, hkP, hkPi⟩ := Cond.selects_spec hsel
  cases hcls.symm.trans q1
  cases (State.methodFound?_of_named hnamed hy).symm.trans q2
  cases hnamed.symm.trans q3
  have hselP : selectMethod e.platform s.vm cellB.cls mk = .method mk := by rw [Launch.admits_selectMethod X.admits]; exact q4
  obtain ⟨vm₁, X₁, hstep₁⟩ := X.invokevirtual hexec hown hlink hnamed hmethM hstM hkP hkPi hy (a := b) (cell := cellB) hcell
    (fun z h => by rw [h] at hobj; cases hobj) hselP hmethM habM hkP hkPi (g := g) hg (argsL := argsL) (rest := rest) (hlen _ hsigM) hstack hdg
  obtain ⟨v, B, X', hpost, hsteps⟩ := hK m meth c ⟨T.setVm vm₁, locs, cells, slots⟩ { g with stack := rest } (.invokevirtual index) mk (Value.ref b :: argsL).toArray X₁ hg hsize hdg hW (X₁.named hnamed) (hpre vm₁ X₁.warmed)
  exact ⟨v, vm₁, B, X₁.warmed, X', hpost, fun target h => hstep₁ _ fun acts => by rw [doInvoke_state]; exact hsteps.trans h⟩
abbrev vx_CVW (R : Room) (s : State) (args : Array Value) (own C : String) (index : Nat) (y : MethodName) (bytes : ByteArray) (maxL : Nat) (ret : Option FieldType) (hh : List (Nat × Nat × Nat × Nat)) (ws : List Cond) (rm : Room) (mc ms n : Nat) : Prop :=
  (rm.cells = mc ∧ rm.slots = ms ∧ rm.frames + 1 ≤ R.frames ∧ 8 + (maxL + 11) + rm.locals ≤ R.locals ∧ (∀ w ∈ ws, ∀ (a' : Array Value) (U : State), s.WarmedH U.vm → w.before a' U = true) ∧ Cond.codeWith y bytes maxL ret hh ∈ ws) ∧
  (Cond.codeWith y bytes maxL ret hh).before args s = true ∧ (Cond.initialized y.cls).before args s = true ∧ (y.cls ≠ "java/lang/invoke/MethodHandle" ∧ y.cls ≠ "java/lang/invoke/VarHandle") ∧
  (∀ sig, parseMethodDescriptor y.desc = some sig → n = sig.parameters.length) ∧ (Cond.methodLink own index y).before args s = true ∧ (Cond.instanceMethod y).before args s = true ∧ (Cond.selects C y y).before args s = true
theorem vx_cwVW {own C : String} {index maxL mc ms : Nat} {y : MethodName} {bytes : ByteArray} {ret : Option FieldType} {hh : List (Nat × Nat × Nat × Nat)} {Ts ws ws' : List Cond} {rm : Room} (n : Nat) (ht : ∀ w ∈ Ts, w.before args s = true) (hT : GoodIn Ts (wsV own index C y ws)) (hw : ws = Cond.codeWith y bytes maxL ret hh :: ws') (hrc : rm.cells = mc) (hrs : rm.slots = ms)
    (hd : y.cls = C ∧ y.cls ≠ "java/lang/invoke/MethodHandle" ∧ y.cls ≠ "java/lang/invoke/VarHandle" ∧ (parseMethodDescriptor y.desc).map (fun d => d.parameters.length) = some n) (hR : rm.frames + 1 ≤ R.frames ∧ 8 + (maxL + 11) + rm.locals ≤ R.locals) :
    vx_CVW R s args own C index y bytes maxL ret hh ws rm mc ms n := by
  obtain ⟨hC, hd⟩ := hd
  subst hC
  have ok : ∀ w ∈ wsV own index y.cls y ws, w.before args s = true := fun w h => ht w (hT w h).1
  have hG : GoodIn Ts ws := fun w h => hT w (by unfold wsV; exact List.mem_append_right _ h)
  have hc : Cond.codeWith y bytes maxL ret hh ∈ ws := by rw [hw]; exact List.mem_cons_self
  refine ⟨⟨hrc, hrs, hR.1, hR.2, pay_in ht hG, hc⟩, ht _ (hG _ hc).1, ok _ (by simp [wsV]), ⟨hd.1, hd.2.1⟩, fun sig h => ?_, ok _ (by simp [wsV]), ok _ (by simp [wsV]), ok _ (by simp [wsV])⟩
  have h2 := hd.2.2
  rw [h] at h2
  exact (Option.some.inj h2).symm
theorem vx_runVW {y : MethodName} {bytes cc : ByteArray} {maxL nL mc ms n index : Nat} {ret : Option FieldType} {hh : List (Nat × Nat × Nat × Nat)} {ws : List Cond} {rm : Room} {Pc : Array Value → State → Prop} {Qc : Array Value → State → Outcome → State → Prop} {free : Addr → Prop} {Ts : List Cond} {own C : String} {b : Addr} {As rest : List Value} {g : JFrame}
    (S : CallFix p m c cc nL s args Ts own) (hM : Met l y ws rm Pc Qc mc ms free) (cw : vx_CVW R s args own C index y bytes maxL ret hh ws rm mc ms n) (hp : PreV s H C b Pc As)
    (hg : g.method = m) (hn : As.length = n) (hsize : g.locals.size = nL) (hstack : g.stack = As.reverse ++ .ref b :: rest) (hW : 2 * g.monitorRoom + (rest.map fun v => v.category).sum ≤ 8) (hdg : decode cc g.pc = .ok (.invokevirtual index, 3)) (hf : cells + mc ≤ R.cells ∧ slots + ms ≤ R.slots) :
    va_Run p l e R s m args below meth c H locs cells slots mc ms g rest (Qc (Value.ref b :: As).toArray) free := by
  obtain ⟨⟨hrc, hrs, hfr, hlo, hws, hcw⟩, hcode, hini, hy, hlen, hl, hin, hse⟩ := cw
  have hK : Back l R p e below s args y 3 8 (PreOf R mc ms Pc) (PostOf Qc mc ms free) := va_backW (hh := hh) (bytes := bytes) (maxL := maxL) (ret := ret) hM hp.1 hrc hrs hfr hlo hws hcw (fun a' U hW => word_at hW (Or.inl (by first | rfl | simp [Cond.onTables, Cond.keeps, Cond.steady])) hini)
  obtain ⟨hx, hb, hml, ho, -⟩ := S
  obtain ⟨-, ⟨cellB, hcB, hoB, hclB⟩, hPc⟩ := hp
  intro T hT X
  obtain ⟨v, vm₁, ⟨U', l2, c2, s2⟩, hW₁, X', ⟨g', mk, t, L, e1, e2, hq, h1, hL, h2, h3⟩, st⟩ := vx_callVW X hx (C := C) (hh := hh) (bytes := bytes) (maxL := maxL) (ret := ret) ho hl hin hse hcode hy hK (by rw [hT]; exact hcB) hoB hclB hg (hsize.trans hml.symm) (argsL := As) (rest := rest) (fun sig h => hn.trans (hlen sig h)) hstack hW (by rw [hb]; exact hdg)
    (fun vm₁ hW₁ => ⟨hf.1, hf.2, hPc (T.setVm vm₁) hT hW₁⟩)
  dsimp only [Pt.U, Pt.locs, Pt.cells, Pt.slots] at X' e1 e2 h1 h2 h3 st
  subst h1; subst h2; subst h3
  exact ⟨v, (T.setVm vm₁).calling g' mk (Value.ref b :: As).toArray, t, U', L, hT, X', hL, e1, e2, hq, st⟩
section
variable {y : MethodName} {bytes cc : ByteArray} {maxL nL mc ms n index : Nat} {ret : Option FieldType} {ws : List Cond} {rm : Room} {Pc : Array Value → State → Prop} {Qc : Array Value → State → Outcome → State → Prop} {XC : String → State → State → Prop} {free : Addr → Prop} {Ts : List Cond} {own C : String} {b : Addr} {As rest : List Value} {g : JFrame}
theorem vx_runVX {hh : List (Nat × Nat × Nat × Nat)} (S : CallFix p m c cc nL s args Ts own) (hM : vx_Met l y ws rm Pc Qc XC mc ms free) (cw : vx_CVW R s args own C index y bytes maxL ret hh ws rm mc ms n) (hp : PreV s H C b Pc As)
    (hg : g.method = m) (hn : As.length = n) (hsize : g.locals.size = nL) (hstack : g.stack = As.reverse ++ .ref b :: rest) (hW : 2 * g.monitorRoom + (rest.map fun v => v.category).sum ≤ 8) (hdg : decode cc g.pc = .ok (.invokevirtual index, 3)) (hf : cells + mc ≤ R.cells ∧ slots + ms ≤ R.slots) :
    vx_Run p l e R s m args below meth c H locs cells slots mc ms g rest (Qc (Value.ref b :: As).toArray) XC free := by
  obtain ⟨⟨hrc, hrs, hfr, hlo, hws, hcw⟩, hcode, hini, hy, hlen, hl, hin, hse⟩ := cw
  have hK : vx_Back l R p e below s args y 3 8 (PreOf R mc ms Pc) (PostOf Qc mc ms free) (vx_Post XC mc ms free) := vx_backW (hh := hh) (bytes := bytes) (maxL := maxL) (ret := ret) hM hp.1 hrc hrs hfr hlo hws hcw (fun a' U hW => word_at hW (Or.inl (by first | rfl | simp [Cond.onTables, Cond.keeps, Cond.steady])) hini)
  obtain ⟨hx, hb, hml, ho, -⟩ := S
  obtain ⟨-, ⟨cellB, hcB, hoB, hclB⟩, hPc⟩ := hp
  intro T hT X
  rcases vx_callVX X hx (C := C) (hh := hh) (bytes := bytes) (maxL := maxL) (ret := ret) ho hl hin hse hcode hy hK (by rw [hT]; exact hcB) hoB hclB hg (hsize.trans hml.symm) (argsL := As) (rest := rest) (fun sig h => hn.trans (hlen sig h)) hstack hW (by rw [hb]; exact hdg)
    (fun vm₁ hW₁ => ⟨hf.1, hf.2, hPc (T.setVm vm₁) hT hW₁⟩) with ⟨v, vm₁, ⟨U', l2, c2, s2⟩, hW₁, X', ⟨g', mk, t, L, e1, e2, hq, h1, hL, h2, h3⟩, st⟩ | ⟨q, vm₁, ⟨U', l2, c2, s2⟩, hW₁, X', ⟨g', mk, t, L, E, ce, e1, e2, hq, hce, hcv, hcl, h1, hL, h2, h3⟩, st⟩
  · dsimp only [Pt.U, Pt.locs, Pt.cells, Pt.slots] at X' e1 e2 h1 h2 h3 st
    subst h1; subst h2; subst h3
    exact Or.inl ⟨v, (T.setVm vm₁).calling g' mk (Value.ref b :: As).toArray, t, U', L, hT, X', hL, e1, e2, hq, st⟩
  · dsimp only [Pt.U, Pt.locs, Pt.cells, Pt.slots] at X' e1 e2 h1 h2 h3 st hcl
    subst h1; subst h2; subst h3
    exact Or.inr ⟨q, (T.setVm vm₁).calling g' mk (Value.ref b :: As).toArray, t, U', L, E, ce, hT, X', hL, e1, e2, hq, hce, hcv, vx_cls hW₁ hcl, st⟩
theorem vx_runSX {hh : List (Nat × Nat × Nat × Nat)} (S : CallFix p m c cc nL s args Ts own) (hM : vx_Met l y ws rm Pc Qc XC mc ms free) (cw : vx_CSW R s args own index y bytes maxL ret hh ws rm mc ms n) (hp : PreS s H Pc As)
    (hg : g.method = m) (hn : As.length = n) (hsize : g.locals.size = nL) (hstack : g.stack = As.reverse ++ rest) (hW : 2 * g.monitorRoom + (rest.map fun v => v.category).sum ≤ 8) (hdg : decode cc g.pc = .ok (.invokestatic index, 3)) (hf : cells + mc ≤ R.cells ∧ slots + ms ≤ R.slots) :
    vx_Run p l e R s m args below meth c H locs cells slots mc ms g rest (Qc As.toArray) XC free := by
  obtain ⟨⟨hrc, hrs, hfr, hlo, hws, hcw⟩, hcode, hini, hy, hlen, hl, hstt⟩ := cw
  have hK : vx_Back l R p e below s args y 3 8 (PreOf R mc ms Pc) (PostOf Qc mc ms free) (vx_Post XC mc ms free) := vx_backW (hh := hh) (bytes := bytes) (maxL := maxL) (ret := ret) hM hp.1 hrc hrs hfr hlo hws hcw (fun a' U hW => word_at hW (Or.inl (by first | rfl | simp [Cond.onTables, Cond.keeps, Cond.steady])) hini)
  obtain ⟨hx, hb, hml, ho, -⟩ := S
  intro T hT X
  rcases vx_callSX X hx (hh := hh) (bytes := bytes) (maxL := maxL) (ret := ret) ho hl hstt hini hcode hy hK hg (hsize.trans hml.symm) (argsL := As) (rest := rest) (fun sig h => hn.trans (hlen sig h)) hstack hW (by rw [hb]; exact hdg)
    (fun vm₁ hW₁ => ⟨hf.1, hf.2, hp.2 (T.setVm vm₁) hT hW₁⟩) with ⟨v, vm₁, ⟨U', l2, c2, s2⟩, hW₁, X', ⟨g', mk, t, L, e1, e2, hq, h1, hL, h2, h3⟩, st⟩ | ⟨q, vm₁, ⟨U', l2, c2, s2⟩, hW₁, X', ⟨g', mk, t, L, E, ce, e1, e2, hq, hce, hcv, hcl, h1, hL, h2, h3⟩, st⟩
  · dsimp only [Pt.U, Pt.locs, Pt.cells, Pt.slots] at X' e1 e2 h1 h2 h3 st
    subst h1; subst h2; subst h3
    exact Or.inl ⟨v, (T.setVm vm₁).calling g' mk As.toArray, t, U', L, hT, X', hL, e1, e2, hq, st⟩
  · dsimp only [Pt.U, Pt.locs, Pt.cells, Pt.slots] at X' e1 e2 h1 h2 h3 st hcl
    subst h1; subst h2; subst h3
    exact Or.inr ⟨q, (T.setVm vm₁).calling g' mk As.toArray, t, U', L, E, ce, hT, X', hL, e1, e2, hq, hce, hcv, vx_cls hW₁ hcl, st⟩
end
end VXH
theorem vx_ofWH {l : Launch} {y : MethodName} {ws ws' : List Cond} {rm : Room} {Pc : Array Value → State → Prop} {Qc : Array Value → State → Outcome → State → Prop} {XC : String → State → State → Prop} {mc ms : Nat} {free : Addr → Prop} {cc : ByteArray} {maxL : Nat} {ret : Option FieldType} {hh : List (Nat × Nat × Nat × Nat)}
    (hy : plainName y.cls = true) (hw : ws = Cond.codeWith y cc maxL ret hh :: ws')
    (body : ∀ p e s m args below meth c s₁, BodyLoose p l y (headSpec ws rm) cc maxL ret e s m args below meth c s₁ → c.maxLocals = maxL → Pc args s →
      W p l e (headSpec ws rm).room s m args below meth c s.heap [] 0 0 (vx_MQ below Qc XC args s mc ms free) (entryFrame m args maxL)) : vx_Met l y ws rm Pc Qc XC mc ms free := by
  refine MetFree.of_bodyS (code := cc) (maxLocals := maxL) (ret := ret) hy ?_ ?_
  · intro args s m h hn
    obtain ⟨m9, meth, c, hn9, h1, h2, h3, h4, -, h5, h6, -⟩ := Cond.codeWith_spec (atoms_spec (ws := ws) h _ (by rw [hw]; exact List.mem_cons_self))
    cases hn.symm.trans hn9
    exact ⟨meth, c, h1, h2, h3, h4, h5, h6⟩
  · intro p e s m args below meth c s₁ B hml hP _
    have hh0 : s₁.heap = s.heap := by rw [B.state]; rfl
    obtain ⟨t, a1, o, b1, b2, b3⟩ := body p e s m args below meth c s₁ B hml hP s₁ hh0 (Stand.of_body B)
    exact ⟨t, o, a1, b1, b2, b3⟩
/-! ===== END ===== -/
end
section
/-! The abstract machine. A heap is a list of cells; a value .ref k is its k-th cell, .retAddr k the k-th special cell (0: the script). A state: pc, locals, stack, heap, cells left, slots left. A result: the value returned or the class thrown, and the heap. An instruction is what must hold at a state so that the next ones (K), the end (Q), a call (C) are right. -/
abbrev gx_E : Type := (Nat × vp_A) ⊕ (Nat × List Value)
abbrev gx_H : Type := List gx_E
abbrev gx_S : Type := Nat × List (Option Value) × List Value × gx_H × Nat × Nat
abbrev gx_R : Type := (Option Value ⊕ String) × gx_H
abbrev gx_T : Type := gx_S → (gx_S → Prop) → (gx_R → Prop) → (Nat → gx_S → (gx_R → Prop) → Prop) → Prop
abbrev gx_P : Type := Nat → Nat → Option gx_T
abbrev gx_F : Type := Nat → Nat → gx_S → (gx_R → Prop) → Prop
def gx_mono (F : gx_F) : Prop := ∀ (d m : Nat) (S : gx_S) (Q Q' : gx_R → Prop), (∀ r, Q r → Q' r) → F d m S Q → F d m S Q'
def gx_closed (P : gx_P) (F : gx_F) : Prop := ∀ (d m : Nat) (S : gx_S) (Q : gx_R → Prop) (T : gx_T) (K : gx_S → Prop) (C : Nat → gx_S → (gx_R → Prop) → Prop), P m S.1 = some T → T S K Q C → (∀ S', K S' → F d m S' Q) → (∀ m' E Q', C m' E Q' → ∃ d', d = d' + 1 ∧ F d' m' E Q') → F d m S Q
/-- method m of P, at the state S with d frames left, comes to a result with Q -/
def gx_X (P : gx_P) (d m : Nat) (S : gx_S) (Q : gx_R → Prop) : Prop := ∀ F : gx_F, gx_mono F → gx_closed P F → F d m S Q
theorem gx_X.mono {P : gx_P} {d m : Nat} {S : gx_S} {Q Q' : gx_R → Prop} (h : gx_X P d m S Q) (hq : ∀ r, Q r → Q' r) : gx_X P d m S Q' := fun F hm hc => hm d m S Q Q' hq (h F hm hc)
theorem gx_X.intro {P : gx_P} {d m : Nat} {S : gx_S} {Q : gx_R → Prop} {T : gx_T} {K : gx_S → Prop} {C : Nat → gx_S → (gx_R → Prop) → Prop} (hT : P m S.1 = some T) (h : T S K Q C) (hK : ∀ S', K S' → gx_X P d m S' Q) (hC : ∀ m' E Q', C m' E Q' → ∃ d', d = d' + 1 ∧ gx_X P d' m' E Q') : gx_X P d m S Q :=
  fun F hm hc => hc d m S Q T K C hT h (fun S' k => hK S' k F hm hc) (fun m' E Q' k => by
    obtain ⟨d', e, x⟩ := hC m' E Q' k
    exact ⟨d', e, x F hm hc⟩)
theorem gx_X.deep {P : gx_P} {d m : Nat} {S : gx_S} {Q : gx_R → Prop} (h : gx_X P d m S Q) : gx_X P (d + 1) m S Q := by
  refine h (fun d m S Q => gx_X P (d + 1) m S Q) (fun d m S Q Q' hq k => k.mono hq) ?_
  intro d m S Q T K C hT hS hK hC
  refine gx_X.intro hT hS hK (fun m' E Q' k => ?_)
  obtain ⟨d', e, x⟩ := hC m' E Q' k
  exact ⟨d' + 1, by omega, x⟩
theorem gx_X.deeper {P : gx_P} {d m : Nat} {S : gx_S} {Q : gx_R → Prop} (h : gx_X P d m S Q) (k : Nat) : gx_X P (d + k) m S Q := by
  induction k with
  | zero => exact h
  | succ k ih => exact ih.deep
theorem gx_X.le {P : gx_P} {d d' m : Nat} {S : gx_S} {Q : gx_R → Prop} (h : gx_X P d m S Q) (hd : d ≤ d') : gx_X P d' m S Q := by
  have h1 := h.deeper (d' - d)
  rw [show d + (d' - d) = d' by omega] at h1
  exact h1
def gx_isin (p : Nat) : List Nat → Bool
  | [] => false
  | q :: r => match Nat.beq p q with
    | true => true
    | false => gx_isin p r
/-- instructions at once, k at most, up to one of the stops -/
def gx_bs (P : gx_P) (d m : Nat) (stop : List Nat) (Q : gx_R → Prop) : Nat → gx_S → Prop
  | 0, S => gx_X P (d + 1) m S Q
  | k + 1, S => match P m S.1 with
    | some T => T S (fun S' => match gx_isin S'.1 stop with
      | true => gx_X P (d + 1) m S' Q
      | false => gx_bs P d m stop Q k S') Q (fun m' E Q' => gx_X P d m' E Q')
    | none => False
theorem gx_X.bs {P : gx_P} {d m : Nat} {Q : gx_R → Prop} (stop : List Nat) : ∀ (k : Nat) {S : gx_S}, gx_bs P d m stop Q k S → gx_X P (d + 1) m S Q
  | 0, S, h => h
  | k + 1, S, h => by
    have h1 : (match P m S.1 with
      | some T => T S (fun S' => match gx_isin S'.1 stop with
        | true => gx_X P (d + 1) m S' Q
        | false => gx_bs P d m stop Q k S') Q (fun m' E Q' => gx_X P d m' E Q')
      | none => False) := h
    cases hT : P m S.1 with
    | none =>
      rw [hT] at h1
      exact False.elim h1
    | some T =>
      rw [hT] at h1
      refine gx_X.intro hT h1 (fun S' hk => ?_) (fun m' E Q' hc => ⟨d, rfl, hc⟩)
      cases hi : gx_isin S'.1 stop with
      | true => rw [hi] at hk; exact hk
      | false => rw [hi] at hk; exact gx_X.bs stop k hk
/-- a table of instructions by their pc -/
def gx_find (pc : Nat) : List (Nat × gx_T) → Option gx_T
  | [] => none
  | q :: r => match Nat.beq q.1 pc with
    | true => some q.2
    | false => gx_find pc r
theorem gx_find_mem {pc : Nat} {T : gx_T} : ∀ {l : List (Nat × gx_T)}, gx_find pc l = some T → (pc, T) ∈ l
  | [], h => by cases h
  | q :: r, h => by
    have h1 : (match Nat.beq q.1 pc with
      | true => some q.2
      | false => gx_find pc r) = some T := h
    cases hb : Nat.beq q.1 pc with
    | true =>
      rw [hb] at h1
      have e1 : q.1 = pc := Nat.eq_of_beq_eq_true hb
      have e2 : q.2 = T := Option.some.inj h1
      rw [← e1, ← e2]
      exact List.mem_cons_self
    | false =>
      rw [hb] at h1
      exact List.mem_cons_of_mem _ (gx_find_mem h1)
-- the instructions
def gx_isI : Value → Bool
  | .int _ => true
  | _ => false
def gx_isR : Value → Bool
  | .ref _ => true
  | .null => true
  | .retAddr _ => true
  | _ => false
def gi_ld (kd : Value → Bool) (i nx : Nat) : gx_T := fun S K _ _ => match S with
  | (_, lv, st, h, bc, bs) => match lv[i]? with
    | some (some v) => match kd v with
      | true => K (nx, lv, v :: st, h, bc, bs)
      | false => False
    | _ => False
def gi_k (v : Value) (nx : Nat) : gx_T := fun S K _ _ => match S with
  | (_, lv, st, h, bc, bs) => K (nx, lv, v :: st, h, bc, bs)
def gi_st (kd : Value → Bool) (i nx : Nat) : gx_T := fun S K _ _ => match S with
  | (_, lv, v :: st, h, bc, bs) => match lv[i]? with
    | some _ => match kd v with
      | true => K (nx, lv.set i (some v), st, h, bc, bs)
      | false => False
    | none => False
  | _ => False
def gi_inc (i : Nat) (n : Int32) (nx : Nat) : gx_T := fun S K _ _ => match S with
  | (_, lv, st, h, bc, bs) => match lv[i]? with
    | some (some (.int x)) => K (nx, lv.set i (some (.int (x + n))), st, h, bc, bs)
    | _ => False
def gi_un (f : Int32 → Int32) (nx : Nat) : gx_T := fun S K _ _ => match S with
  | (_, lv, .int x :: st, h, bc, bs) => K (nx, lv, .int (f x) :: st, h, bc, bs)
  | _ => False
def gi_bin (f : Int32 → Int32 → Int32) (nx : Nat) : gx_T := fun S K _ _ => match S with
  | (_, lv, .int y :: .int x :: st, h, bc, bs) => K (nx, lv, .int (f x y) :: st, h, bc, bs)
  | _ => False
def gi_div (f : Int32 → Int32 → Int32) (nx : Nat) : gx_T := fun S K _ _ => match S with
  | (_, lv, .int y :: .int x :: st, h, bc, bs) => ¬ y = 0 ∧ K (nx, lv, .int (f x y) :: st, h, bc, bs)
  | _ => False
def gi_goto (tg : Nat) : gx_T := fun S K _ _ => match S with
  | (_, lv, st, h, bc, bs) => K (tg, lv, st, h, bc, bs)
def gi_if (ct cf : Int32 → Prop) (tg nx : Nat) : gx_T := fun S K _ _ => match S with
  | (_, lv, .int x :: st, h, bc, bs) => (ct x → K (tg, lv, st, h, bc, bs)) ∧ (cf x → K (nx, lv, st, h, bc, bs))
  | _ => False
def gi_cmp (ct cf : Int32 → Int32 → Prop) (tg nx : Nat) : gx_T := fun S K _ _ => match S with
  | (_, lv, .int y :: .int x :: st, h, bc, bs) => (ct x y → K (tg, lv, st, h, bc, bs)) ∧ (cf x y → K (nx, lv, st, h, bc, bs))
  | _ => False
/-- ifnull: tn where it is null, tr where it is a cell -/
def gi_nul (tn tr : Nat) : gx_T := fun S K _ _ => match S with
  | (_, lv, .null :: st, h, bc, bs) => K (tn, lv, st, h, bc, bs)
  | (_, lv, .ref _ :: st, h, bc, bs) => K (tr, lv, st, h, bc, bs)
  | _ => False
def gi_dup (nx : Nat) : gx_T := fun S K _ _ => match S with
  | (_, lv, v :: st, h, bc, bs) => match Nat.beq v.category 1 with
    | true => K (nx, lv, v :: v :: st, h, bc, bs)
    | false => False
  | _ => False
def gi_dup2 (nx : Nat) : gx_T := fun S K _ _ => match S with
  | (_, lv, v :: w :: st, h, bc, bs) => match Nat.beq v.category 1, Nat.beq w.category 1 with
    | true, true => K (nx, lv, v :: w :: v :: w :: st, h, bc, bs)
    | _, _ => False
  | _ => False
def gi_pop (nx : Nat) : gx_T := fun S K _ _ => match S with
  | (_, lv, v :: st, h, bc, bs) => match Nat.beq v.category 1 with
    | true => K (nx, lv, st, h, bc, bs)
    | false => False
  | _ => False
def gi_get (ci k nx : Nat) : gx_T := fun S K _ _ => match S with
  | (_, lv, .ref a :: st, h, bc, bs) => match h[a]? with
    | some (.inr (c, fs)) => match Nat.beq c ci, fs[k]? with
      | true, some v => K (nx, lv, v :: st, h, bc, bs)
      | _, _ => False
    | _ => False
  | _ => False
/-- what of a value tells whether a field takes it -/
def gx_r : Value → Value
  | .ref _ => .ref 0
  | .retAddr _ => .ref 0
  | v => v
def gi_put (ci k : Nat) (ty : FieldType) (nx : Nat) : gx_T := fun S K _ _ => match S with
  | (_, lv, v :: .ref a :: st, h, bc, bs) => match h[a]? with
    | some (.inr (c, fs)) => match Nat.beq c ci, fs[k]? with
      | true, some _ => (narrow ty (gx_r v) = gx_r v ∧ fits ty (gx_r v) = true) ∧ K (nx, lv, st, h.set a (.inr (c, fs.set k v)), bc, bs)
      | _, _ => False
    | _ => False
  | _ => False
/-- a field of type int -/
def gi_puti (ci k nx : Nat) : gx_T := fun S K _ _ => match S with
  | (_, lv, .int x :: .ref a :: st, h, bc, bs) => match h[a]? with
    | some (.inr (c, fs)) => match Nat.beq c ci, fs[k]? with
      | true, some _ => K (nx, lv, st, h.set a (.inr (c, fs.set k (.int x))), bc, bs)
      | _, _ => False
    | _ => False
  | _ => False
theorem gi_puti.to {ci k nx : Nat} {S : gx_S} {K : gx_S → Prop} {Q : gx_R → Prop} {C : Nat → gx_S → (gx_R → Prop) → Prop} (h : gi_puti ci k nx S K Q C) : gi_put ci k .int nx S K Q C := by
  obtain ⟨pc, lv, st, hp, bc, bs⟩ := S
  rcases st with _ | ⟨v, st⟩
  · exact False.elim h
  cases v with
  | int x =>
    rcases st with _ | ⟨v, st⟩
    · exact False.elim h
    cases v with
    | ref a =>
      cases hc : hp[a]? with
      | none => simp only [gi_puti, hc] at h
      | some ce =>
        obtain ⟨t0, x0⟩ | ⟨c0, fs⟩ := ce
        · simp only [gi_puti, hc] at h
        · cases hb : Nat.beq c0 ci with
          | false => simp only [gi_puti, hc, hb] at h
          | true =>
            cases hf : fs[k]? with
            | none => simp only [gi_puti, hc, hb, hf] at h
            | some w =>
              simp only [gi_puti, hc, hb, hf] at h
              simp only [gi_put, hc, hb, hf]
              exact ⟨⟨rfl, rfl⟩, h⟩
    | _ => exact False.elim h
  | _ => exact False.elim h
def gi_ald (t nx : Nat) : gx_T := fun S K _ _ => match S with
  | (_, lv, .int i :: .ref a :: st, h, bc, bs) => match h[a]? with
    | some (.inl (t', n, .inl f)) => match Nat.beq t' t with
      | true => vp_in i n ∧ K (nx, lv, .int (f i.toNatClampNeg) :: st, h, bc, bs)
      | false => False
    | _ => False
  | _ => False
def gi_ast (t : Nat) (g : Int32 → Int32) (nx : Nat) : gx_T := fun S K _ _ => match S with
  | (_, lv, .int x :: .int i :: .ref a :: st, h, bc, bs) => match h[a]? with
    | some (.inl (t', n, .inl f)) => match Nat.beq t' t with
      | true => vp_in i n ∧ K (nx, lv, st, h.set a (.inl (t', n, .inl (upd f i.toNatClampNeg (g x)))), bc, bs)
      | false => False
    | _ => False
  | _ => False
def gi_alen (nx : Nat) : gx_T := fun S K _ _ => match S with
  | (_, lv, .ref a :: st, h, bc, bs) => match h[a]? with
    | some (.inl (_, x)) => K (nx, lv, .int (Int32.ofNat x.1) :: st, h, bc, bs)
    | _ => False
  | _ => False
def gi_ret : gx_T := fun S _ Q _ => match S with
  | (_, _, [], h, _, _) => Q (.inl none, h)
  | _ => False
/-- a number of a small type too: of type ty -/
def gi_iret (ty : FieldType) : gx_T := fun S _ Q _ => match S with
  | (_, _, [.int x], h, _, _) => narrow ty (.int x) = .int x ∧ Q (.inl (some (.int x)), h)
  | _ => False
def gi_ireti : gx_T := fun S _ Q _ => match S with
  | (_, _, [.int x], h, _, _) => Q (.inl (some (.int x)), h)
  | _ => False
theorem gi_ireti.to {S : gx_S} {K : gx_S → Prop} {Q : gx_R → Prop} {C : Nat → gx_S → (gx_R → Prop) → Prop} (h : gi_ireti S K Q C) : gi_iret .int S K Q C := by
  obtain ⟨pc, lv, st, hp, bc, bs⟩ := S
  rcases st with _ | ⟨v, st⟩
  · exact False.elim h
  cases v with
  | int x =>
    rcases st with _ | ⟨v, st⟩
    · exact ⟨rfl, h⟩
    · exact False.elim h
  | _ => exact False.elim h
/-- a new array of ints of a small type or of int -/
def gi_newa (t : Nat) (nx : Nat) : gx_T := fun S K _ _ => match S with
  | (_, lv, .int n :: st, h, bc, bs) => (¬ n < 0 ∧ n.toNatClampNeg * 8 ≤ 536870912) ∧ (1 ≤ bc ∧ n.toNatClampNeg ≤ bs) ∧ K (nx, lv, .ref h.length :: st, h ++ [.inl (t, n.toNatClampNeg, .inl (fun _ => 0))], bc - 1, bs - n.toNatClampNeg)
  | _ => False
def gi_new (ci N : Nat) (fs : List Value) (nx : Nat) : gx_T := fun S K _ _ => match S with
  | (_, lv, st, h, bc, bs) => (1 ≤ bc ∧ N ≤ bs) ∧ K (nx, lv, .ref h.length :: st, h ++ [.inr (ci, fs)], bc - 1, bs - N)
/-- behind a call -/
def gx_k (lv : List (Option Value)) (st : List Value) (nx bc bs : Nat) (K : gx_S → Prop) (Q : gx_R → Prop) : gx_R → Prop := fun r => match r with
  | (.inl none, h) => K (nx, lv, st, h, bc, bs)
  | (.inl (some v), h) => K (nx, lv, v :: st, h, bc, bs)
  | (.inr x, h) => Q (.inr x, h)
/-- a call of method m' (n values are taken, with the receiver; nL locals); F: what is behind it -/
def gi_callK (m' n nL : Nat) (st : List Value) (h : gx_H) (bc bs : Nat) (F : Nat → Nat → gx_R → Prop) (C : Nat → gx_S → (gx_R → Prop) → Prop) : Prop :=
  match Nat.ble ((st.drop n).map Value.category).sum 8, ((st.take n).all (fun v => Nat.beq v.category 1)), Nat.beq (st.take n).length n with
    | true, true, true => ∃ kc ks, (kc ≤ bc ∧ ks ≤ bs) ∧ C m' (0, ((st.take n).reverse.map some) ++ List.replicate (nL - n) none, [], h, kc, ks) (F kc ks)
    | _, _, _ => False
def gi_call (m' n nL nx : Nat) : gx_T := fun S K Q C => match S with
  | (_, lv, st, h, bc, bs) => gi_callK m' n nL st h bc bs (fun kc ks => gx_k lv (st.drop n) nx (bc - kc) (bs - ks) K Q) C
/-- behind a constructor: it never throws -/
def gx_k0 (lv : List (Option Value)) (st : List Value) (nx bc bs : Nat) (K : gx_S → Prop) : gx_R → Prop := fun r => match r with
  | (.inl none, h) => K (nx, lv, st, h, bc, bs)
  | _ => False
/-- a call by the receiver's class: the receiver stands at place k of the stack, k values over it -/
def gi_vcall (sel : Nat → Option (Nat × Nat)) (k nx : Nat) : gx_T := fun S K Q C => match S with
  | (pc, lv, st, h, bc, bs) => match st[k]? with
    | some (.ref a) => match h[a]? with
      | some (.inr (c, _)) => match sel c with
        | some (m', nL) => gi_call m' (k + 1) nL nx (pc, lv, st, h, bc, bs) K Q C
        | none => False
      | _ => False
    | _ => False
/-- of one class alone -/
def gx_sel (ci m' nL : Nat) : Nat → Option (Nat × Nat) := fun c => match Nat.beq c ci with
  | true => some (m', nL)
  | false => none
/-- invokespecial of a constructor: on the cell at place k -/
def gi_scall (m' k nL nx : Nat) : gx_T := fun S K _ C => match S with
  | (_, lv, st, h, bc, bs) => match st[k]? with
    | some (.ref _) => gi_callK m' (k + 1) nL st h bc bs (fun kc ks => gx_k0 lv (st.drop (k + 1)) nx (bc - kc) (bs - ks) K) C
    | _ => False
/-- Object(): nothing -/
def gi_obj (nx : Nat) : gx_T := fun S K _ _ => match S with
  | (_, lv, .ref _ :: st, h, bc, bs) => match Nat.ble (st.map Value.category).sum 8 with
    | true => K (nx, lv, st, h, bc, bs)
    | false => False
  | _ => False
end
section
/-! What the abstract machine's states are in the machine: cell k lies at ad k, special k at sp k; array classes by their tag in dT. -/
def gx_v (sp ad : Nat → Nat) : Value → Value
  | .ref k => .ref (ad k)
  | .retAddr k => .ref (sp k)
  | .int x => .int x
  | .long x => .long x
  | .float x => .float x
  | .double x => .double x
  | .null => .null
theorem gx_v_cat (sp ad : Nat → Nat) (v : Value) : (gx_v sp ad v).category = v.category := by cases v <;> rfl
def gx_a (ad : Nat → Nat) : vp_A → vp_A
  | (n, .inl f) => (n, .inl f)
  | (n, .inr (.inl f)) => (n, .inr (.inl f))
  | (n, .inr (.inr (.inl f))) => (n, .inr (.inr (.inl f)))
  | (n, .inr (.inr (.inr (.inl f)))) => (n, .inr (.inr (.inr (.inl f))))
  | (n, .inr (.inr (.inr (.inr f)))) => (n, .inr (.inr (.inr (.inr (fun j => (f j).map ad)))))
def gx_c (dT : Nat → ClassId) (sp ad : Nat → Nat) : gx_E → va_E
  | .inl (t, x) => .inl (dT t, gx_a ad x)
  | .inr (ci, fs) => .inr (ci, fs.map (gx_v sp ad))
def gx_w (dT : Nat → ClassId) (sp ad : Nat → Nat) (h : gx_H) : va_W := h.mapIdx (fun k e => (ad k, gx_c dT sp ad e))
theorem gx_w_len (dT : Nat → ClassId) (sp ad : Nat → Nat) (h : gx_H) : (gx_w dT sp ad h).length = h.length := by simp [gx_w]
theorem gx_w_get (dT : Nat → ClassId) (sp ad : Nat → Nat) (h : gx_H) (k : Nat) : (gx_w dT sp ad h)[k]? = (h[k]?).map (fun e => (ad k, gx_c dT sp ad e)) := by
  unfold gx_w
  rw [List.getElem?_mapIdx]
theorem gx_w_at {dT : Nat → ClassId} {sp ad : Nat → Nat} {h : gx_H} {k : Nat} {e : gx_E} (hk : h[k]? = some e) : (gx_w dT sp ad h)[k]? = some (ad k, gx_c dT sp ad e) := by
  rw [gx_w_get, hk]; rfl
theorem gx_w_set (dT : Nat → ClassId) (sp ad : Nat → Nat) (h : gx_H) (k : Nat) (e : gx_E) : (gx_w dT sp ad h).set k (ad k, gx_c dT sp ad e) = gx_w dT sp ad (h.set k e) := by
  refine List.ext_getElem? fun i => ?_
  rw [gx_w_get, List.getElem?_set, List.getElem?_set, gx_w_get, gx_w_len]
  by_cases hik : k = i
  · subst hik
    by_cases hl : k < h.length
    · simp [hl]
    · simp [hl]
  · simp [hik]
-- no cell but those that are there is named
def gx_ok (n : Nat) : Value → Prop
  | .ref k => k < n
  | _ => True
def gx_oka (n : Nat) : vp_A → Prop
  | (_, .inr (.inr (.inr (.inr f)))) => ∀ j k, f j = some k → k < n
  | _ => True
def gx_okE (n : Nat) : gx_E → Prop
  | .inl (_, x) => gx_oka n x
  | .inr (_, fs) => ∀ v ∈ fs, gx_ok n v
def gx_okH (h : gx_H) : Prop := ∀ (k : Nat) (e : gx_E), h[k]? = some e → gx_okE h.length e
theorem gx_ok.le {n n' : Nat} {v : Value} (h : gx_ok n v) (hn : n ≤ n') : gx_ok n' v := by
  cases v with
  | ref k => exact Nat.lt_of_lt_of_le h hn
  | _ => trivial
theorem gx_oka.le {n n' : Nat} {x : vp_A} (h : gx_oka n x) (hn : n ≤ n') : gx_oka n' x := by
  obtain ⟨k, a | a | a | a | a⟩ := x
  · trivial
  · trivial
  · trivial
  · trivial
  · exact fun j k hj => Nat.lt_of_lt_of_le (h j k hj) hn
theorem gx_okE.le {n n' : Nat} {x : gx_E} (h : gx_okE n x) (hn : n ≤ n') : gx_okE n' x := by
  obtain ⟨t, a⟩ | ⟨ci, fs⟩ := x
  · exact gx_oka.le (x := a) h hn
  · exact fun v hv => gx_ok.le (h v hv) hn
theorem gx_v.ext {sp ad ad' : Nat → Nat} {n : Nat} {v : Value} (h : gx_ok n v) (ha : ∀ k, k < n → ad' k = ad k) : gx_v sp ad' v = gx_v sp ad v := by
  cases v with
  | ref k => exact congrArg Value.ref (ha k h)
  | _ => rfl
theorem gx_a.ext {ad ad' : Nat → Nat} {n : Nat} {x : vp_A} (h : gx_oka n x) (ha : ∀ k, k < n → ad' k = ad k) : gx_a ad' x = gx_a ad x := by
  obtain ⟨k, a | a | a | a | a⟩ := x
  · rfl
  · rfl
  · rfl
  · rfl
  · show (k, Sum.inr (Sum.inr (Sum.inr (Sum.inr (fun j => (a j).map ad'))))) = (k, Sum.inr (Sum.inr (Sum.inr (Sum.inr (fun j => (a j).map ad)))))
    have e : (fun j => (a j).map ad') = (fun j => (a j).map ad) := by
      funext j
      cases hj : a j with
      | none => rfl
      | some i => exact congrArg some (ha i (h j i hj))
    rw [e]
theorem gx_c.ext {dT : Nat → ClassId} {sp ad ad' : Nat → Nat} {n : Nat} {x : gx_E} (h : gx_okE n x) (ha : ∀ k, k < n → ad' k = ad k) : gx_c dT sp ad' x = gx_c dT sp ad x := by
  obtain ⟨t, a⟩ | ⟨ci, fs⟩ := x
  · show Sum.inl (dT t, gx_a ad' a) = Sum.inl (dT t, gx_a ad a)
    rw [gx_a.ext (x := a) h ha]
  · show Sum.inr (ci, fs.map (gx_v sp ad')) = Sum.inr (ci, fs.map (gx_v sp ad))
    rw [List.map_congr_left (fun v hv => gx_v.ext (h v hv) ha)]
theorem gx_w.ext {dT : Nat → ClassId} {sp ad ad' : Nat → Nat} {h : gx_H} (hok : gx_okH h) (ha : ∀ k, k < h.length → ad' k = ad k) : gx_w dT sp ad' h = gx_w dT sp ad h := by
  refine List.ext_getElem? fun i => ?_
  rw [gx_w_get, gx_w_get]
  cases hi : h[i]? with
  | none => rfl
  | some e =>
    have hl : i < h.length := (List.getElem?_eq_some_iff.mp hi).1
    show some (ad' i, gx_c dT sp ad' e) = some (ad i, gx_c dT sp ad e)
    rw [ha i hl, gx_c.ext (hok i e hi) ha]
theorem gx_w.push {dT : Nat → ClassId} {sp ad ad' : Nat → Nat} {h : gx_H} (e : gx_E) (hok : gx_okH h) (ha : ∀ k, k < h.length → ad' k = ad k) : gx_w dT sp ad' (h ++ [e]) = gx_w dT sp ad h ++ [(ad' h.length, gx_c dT sp ad' e)] := by
  rw [← gx_w.ext (dT := dT) (sp := sp) hok ha]
  unfold gx_w
  rw [List.mapIdx_append]
  simp
theorem gx_okH.set {h : gx_H} {k : Nat} {e : gx_E} (hok : gx_okH h) (he : gx_okE h.length e) : gx_okH (h.set k e) := by
  intro i x hi
  rw [List.length_set]
  rw [List.getElem?_set] at hi
  by_cases hik : k = i
  · rw [if_pos hik] at hi
    by_cases hl : k < h.length
    · rw [if_pos hl] at hi
      cases hi
      exact he
    · rw [if_neg hl] at hi
      cases hi
  · rw [if_neg hik] at hi
    exact hok i x hi
theorem gx_okH.push {h : gx_H} {e : gx_E} (hok : gx_okH h) (he : gx_okE (h.length + 1) e) : gx_okH (h ++ [e]) := by
  intro i x hi
  rw [List.length_append]
  by_cases hl : i < h.length
  · rw [List.getElem?_append_left hl] at hi
    exact (hok i x hi).le (by simp)
  · rw [List.getElem?_append_right (by omega)] at hi
    have hz : i - h.length < 1 := (List.getElem?_eq_some_iff.mp hi).1
    have h0 : i - h.length = 0 := by omega
    rw [h0] at hi
    cases hi
    exact he
-- the kit's context; what is the same all through a method: (dC, dI), the array classes' numbers by tag, the special cells, what may change, how many cells there were, where they lay
abbrev gx_C : Type := Program × Launch × Env × Room × State × MethodId × Array Value × List Frame × Method × Code
abbrev gx_D : Type := va_G × (Nat → ClassId) × (Nat → Nat) × (Nat → Prop) × Nat × (Nat → Nat)
-- of a method: the classes, the arrays' element types by tag, what holds of old cells, its words, its code, its name, its locals, what it returns
abbrev gx_M : Type := List vw_C × List FieldType × ((Nat → Prop) → State → Heap → Prop) × List Cond × ByteArray × MethodName × Nat × Option FieldType
def gx_ty (dT : Nat → ClassId) (tyl : List FieldType) : List (ClassId × FieldType) := tyl.mapIdx (fun k ty => (dT k, ty))
theorem gx_ty_at {dT : Nat → ClassId} {tyl : List FieldType} {t : Nat} {ty : FieldType} (h : tyl[t]? = some ty) : (gx_ty dT tyl)[t]? = some (dT t, ty) := by
  unfold gx_ty
  rw [List.getElem?_mapIdx, h]
  rfl
/-- a step of the machine that turns on the code alone -/
def gx_go (cc : ByteArray) (g g' : MethodId → JFrame) : Prop := ∀ (p : Program) (l : Launch) (e : Env) (R : Room) (s : State) (m : MethodId) (args : Array Value) (below : List Frame) (meth : Method) (c : Code) (H : Heap) (locs : List Loc) (cells slots : Nat) (Fin : State → Prop), p.tables.exec = Jvm.exec → c.code = cc → W p l e R s m args below meth c H locs cells slots Fin (g' m) → W p l e R s m args below meth c H locs cells slots Fin (g m)
/-- heap -/
def gx_Rh (cl : List vw_C) (y : gx_D) (s : State) (h : gx_H) (ad : Nat → Nat) (H : Heap) (locs : List Loc) : Prop := match y with
  | (D, dT, sp, A, n0, ad0) => va_P D cl (gx_w dT sp ad h) H ∧ va_D A (gx_w dT sp ad h) ∧ va_S A s.heap H locs ∧ gx_okH h ∧ n0 ≤ h.length ∧ ∀ k, k < n0 → ad k = ad0 k
/-- locals -/
def gx_Rv (sp : Nat → Nat) (nL : Nat) (lv : List (Option Value)) (n : Nat) (ad : Nat → Nat) (ls : Array Slot) : Prop :=
  ls.size = nL ∧ lv_wf ls ∧ lv.length ≤ nL ∧ ∀ (i : Nat) (v : Value), lv[i]? = some (some v) → ls[i]? = some (.val (gx_v sp ad v)) ∧ gx_ok n v ∧ v.category = 1
def gx_Rs (st : List Value) (n : Nat) : Prop := ∀ v ∈ st, gx_ok n v
def gx_Cx (z : gx_M) (x : gx_C) (y : gx_D) : Prop := match z, x, y with
  | (cl, tyl, G, Ts, cc, my, nL, ret), (p, _, _, _, s, m, args, _, meth, c), (D, dT, _, A, _, _) => (p.tables.exec = Jvm.exec ∧ c.code = cc ∧ c.maxLocals = nL ∧ s.vm.findClass my.cls = some m.cls ∧ meth.name = my.name ∧ meth.sig.returnType = ret) ∧ (∀ w ∈ Ts, w.before args s = true) ∧ va_K D cl (gx_ty dT tyl) s ∧ (∀ q, s.heap.size ≤ q → A q) ∧ meth.locks = false ∧ G A s s.heap
/-- from the state S the machine comes to Fin -/
def gx_Gd (z : gx_M) (x : gx_C) (y : gx_D) (Fin : State → Prop) (S : gx_S) : Prop := match z, x, y, S with
  | (cl, _, _, _, _, _, nL, _), (p, l, e, R, s, m, args, below, meth, c), (D, dT, sp, A, n0, ad0), (pc, lv, st, h, bc, bs) => ∀ (ad : Nat → Nat) (H : Heap) (locs : List Loc) (ls : Array Slot),
    gx_Rh cl (D, dT, sp, A, n0, ad0) s h ad H locs → gx_Rv sp nL lv h.length ad ls → gx_Rs st h.length → bc ≤ R.cells → bs ≤ R.slots → W p l e R s m args below meth c H locs (R.cells - bc) (R.slots - bs) Fin (F0 m pc ls (st.map (gx_v sp ad)))
/-- an instruction that neither calls nor ends is right at pc -/
def gx_s1 (z : gx_M) (pc : Nat) (T : gx_T) : Prop := ∀ (x : gx_C) (y : gx_D) (Fin : State → Prop) (lv : List (Option Value)) (st : List Value) (h : gx_H) (bc bs : Nat) (K : gx_S → Prop) (Q : gx_R → Prop) (C : Nat → gx_S → (gx_R → Prop) → Prop),
  gx_Cx z x y → T (pc, lv, st, h, bc, bs) K Q C → (∀ S', K S' → gx_Gd z x y Fin S') → gx_Gd z x y Fin (pc, lv, st, h, bc, bs)
end
section
/-! The instructions are right: each by the kit's row. Written by wip/tools/rows.py. -/
section GXS
variable {cl : List vw_C} {tyl : List FieldType} {Ts : List Cond} {G : (Nat → Prop) → State → Heap → Prop} {cc : ByteArray} {my : MethodName} {nL : Nat} {ret : Option FieldType} {pc nx : Nat}
theorem gs_ild {i : Nat} (hrow : ∀ (ls : Array Slot) (rest : List Value) (x : Int32), ls[i]? = some (.val (.int x)) → gx_go cc (fun m => F0 m pc ls rest) (fun m => F0 m nx ls (.int x :: rest))) : gx_s1 (cl, tyl, G, Ts, cc, my, nL, ret) pc (gi_ld gx_isI i nx) := by
  rintro ⟨p, l, e, R, s, m, args, below, meth, c⟩ ⟨D, dT, sp, A, n0, ad0⟩ Fin lv st h bc bs K Q C ⟨⟨hx, hb, hml, hown, hnm0, hret⟩, hts, hK0, hA, hlk, hG⟩ hT hK ad H locs ls hh hv hs hc1 hc2
  cases hi : lv[i]? with
  | none => simp only [gi_ld, hi] at hT
  | some o =>
    cases o with
    | none => simp only [gi_ld, hi] at hT
    | some v =>
      cases v with
      | int x =>
        simp only [gi_ld, hi, gx_isI] at hT
        have h1 := hv.2.2.2 i _ hi
        exact hrow ls _ x h1.1 p l e R s m args below meth c H locs _ _ Fin hx hb (hK _ hT ad H locs ls hh hv (fun w hm => by
          rcases List.mem_cons.mp hm with e1 | e1
          · rw [e1]; trivial
          · exact hs w e1) hc1 hc2)
      | _ =>
        simp only [gi_ld, hi, gx_isI] at hT
theorem gs_rld {i : Nat} (hrow : ∀ (ls : Array Slot) (rest : List Value) (x : Option Nat), ls[i]? = some (.val (va_rf x)) → gx_go cc (fun m => F0 m pc ls rest) (fun m => F0 m nx ls (va_rf x :: rest))) : gx_s1 (cl, tyl, G, Ts, cc, my, nL, ret) pc (gi_ld gx_isR i nx) := by
  rintro ⟨p, l, e, R, s, m, args, below, meth, c⟩ ⟨D, dT, sp, A, n0, ad0⟩ Fin lv st h bc bs K Q C ⟨⟨hx, hb, hml, hown, hnm0, hret⟩, hts, hK0, hA, hlk, hG⟩ hT hK ad H locs ls hh hv hs hc1 hc2
  cases hi : lv[i]? with
  | none => simp only [gi_ld, hi] at hT
  | some o =>
    cases o with
    | none => simp only [gi_ld, hi] at hT
    | some v =>
      have h1 := hv.2.2.2 i _ hi
      have hst : gx_Rs (v :: st) h.length := (fun w hm => by
          rcases List.mem_cons.mp hm with e1 | e1
          · rw [e1]; exact h1.2.1
          · exact hs w e1)
      cases v with
      | ref k =>
        simp only [gi_ld, hi, gx_isR] at hT
        exact hrow ls _ (some (ad k)) h1.1 p l e R s m args below meth c H locs _ _ Fin hx hb (hK _ hT ad H locs ls hh hv hst hc1 hc2)
      | retAddr k =>
        simp only [gi_ld, hi, gx_isR] at hT
        exact hrow ls _ (some (sp k)) h1.1 p l e R s m args below meth c H locs _ _ Fin hx hb (hK _ hT ad H locs ls hh hv hst hc1 hc2)
      | null =>
        simp only [gi_ld, hi, gx_isR] at hT
        exact hrow ls _ none h1.1 p l e R s m args below meth c H locs _ _ Fin hx hb (hK _ hT ad H locs ls hh hv hst hc1 hc2)
      | _ =>
        simp only [gi_ld, hi, gx_isR] at hT
theorem gs_k {v : Value} (hok : gx_ok 0 v) (hv0 : ∀ sp ad, gx_v sp ad v = v) (hrow : ∀ (ls : Array Slot) (rest : List Value), gx_go cc (fun m => F0 m pc ls rest) (fun m => F0 m nx ls (v :: rest))) : gx_s1 (cl, tyl, G, Ts, cc, my, nL, ret) pc (gi_k v nx) := by
  rintro ⟨p, l, e, R, s, m, args, below, meth, c⟩ ⟨D, dT, sp, A, n0, ad0⟩ Fin lv st h bc bs K Q C ⟨⟨hx, hb, hml, hown, hnm0, hret⟩, hts, hK0, hA, hlk, hG⟩ hT hK ad H locs ls hh hv hs hc1 hc2
  have h1 := hK _ hT ad H locs ls hh hv (fun w hm => by
          rcases List.mem_cons.mp hm with e1 | e1
          · rw [e1]; exact hok.le (Nat.zero_le _)
          · exact hs w e1) hc1 hc2
  rw [List.map_cons, hv0] at h1
  exact hrow ls _ p l e R s m args below meth c H locs _ _ Fin hx hb h1
theorem gs_bin {f : Int32 → Int32 → Int32} (hrow : ∀ (ls : Array Slot) (rest : List Value) (a b : Int32), gx_go cc (fun m => F0 m pc ls (.int b :: .int a :: rest)) (fun m => F0 m nx ls (.int (f a b) :: rest))) : gx_s1 (cl, tyl, G, Ts, cc, my, nL, ret) pc (gi_bin f nx) := by
  rintro ⟨p, l, e, R, s, m, args, below, meth, c⟩ ⟨D, dT, sp, A, n0, ad0⟩ Fin lv st h bc bs K Q C ⟨⟨hx, hb, hml, hown, hnm0, hret⟩, hts, hK0, hA, hlk, hG⟩ hT hK ad H locs ls hh hv hs hc1 hc2
  rcases st with _ | ⟨v, st⟩
  · exact False.elim hT
  cases v with
  | int b =>
    rcases st with _ | ⟨v, st⟩
    · exact False.elim hT
    cases v with
    | int a =>
      exact hrow ls _ a b p l e R s m args below meth c H locs _ _ Fin hx hb (hK _ hT ad H locs ls hh hv (fun w hm => by
                rcases List.mem_cons.mp hm with e1 | e1
                · rw [e1]; trivial
                · exact hs w (List.mem_cons_of_mem _ (List.mem_cons_of_mem _ e1))) hc1 hc2)
    | _ => exact False.elim hT
  | _ => exact False.elim hT
theorem gs_div {f : Int32 → Int32 → Int32} (hrow : ∀ (ls : Array Slot) (rest : List Value) (a b : Int32), ¬ b = 0 → gx_go cc (fun m => F0 m pc ls (.int b :: .int a :: rest)) (fun m => F0 m nx ls (.int (f a b) :: rest))) : gx_s1 (cl, tyl, G, Ts, cc, my, nL, ret) pc (gi_div f nx) := by
  rintro ⟨p, l, e, R, s, m, args, below, meth, c⟩ ⟨D, dT, sp, A, n0, ad0⟩ Fin lv st h bc bs K Q C ⟨⟨hx, hb, hml, hown, hnm0, hret⟩, hts, hK0, hA, hlk, hG⟩ hT hK ad H locs ls hh hv hs hc1 hc2
  rcases st with _ | ⟨v, st⟩
  · exact False.elim hT
  cases v with
  | int b =>
    rcases st with _ | ⟨v, st⟩
    · exact False.elim hT
    cases v with
    | int a =>
      obtain ⟨hz, hT⟩ := hT
      exact hrow ls _ a b hz p l e R s m args below meth c H locs _ _ Fin hx hb (hK _ hT ad H locs ls hh hv (fun w hm => by
                rcases List.mem_cons.mp hm with e1 | e1
                · rw [e1]; trivial
                · exact hs w (List.mem_cons_of_mem _ (List.mem_cons_of_mem _ e1))) hc1 hc2)
    | _ => exact False.elim hT
  | _ => exact False.elim hT
theorem gs_un {f : Int32 → Int32} (hrow : ∀ (ls : Array Slot) (rest : List Value) (a : Int32), gx_go cc (fun m => F0 m pc ls (.int a :: rest)) (fun m => F0 m nx ls (.int (f a) :: rest))) : gx_s1 (cl, tyl, G, Ts, cc, my, nL, ret) pc (gi_un f nx) := by
  rintro ⟨p, l, e, R, s, m, args, below, meth, c⟩ ⟨D, dT, sp, A, n0, ad0⟩ Fin lv st h bc bs K Q C ⟨⟨hx, hb, hml, hown, hnm0, hret⟩, hts, hK0, hA, hlk, hG⟩ hT hK ad H locs ls hh hv hs hc1 hc2
  rcases st with _ | ⟨v, st⟩
  · exact False.elim hT
  cases v with
  | int a =>
    exact hrow ls _ a p l e R s m args below meth c H locs _ _ Fin hx hb (hK _ hT ad H locs ls hh hv (fun w hm => by
              rcases List.mem_cons.mp hm with e1 | e1
              · rw [e1]; trivial
              · exact hs w (List.mem_cons_of_mem _ e1)) hc1 hc2)
  | _ => exact False.elim hT
theorem gs_goto {tg : Nat} (hrow : ∀ (ls : Array Slot) (rest : List Value), gx_go cc (fun m => F0 m pc ls rest) (fun m => F0 m tg ls rest)) : gx_s1 (cl, tyl, G, Ts, cc, my, nL, ret) pc (gi_goto tg) := by
  rintro ⟨p, l, e, R, s, m, args, below, meth, c⟩ ⟨D, dT, sp, A, n0, ad0⟩ Fin lv st h bc bs K Q C ⟨⟨hx, hb, hml, hown, hnm0, hret⟩, hts, hK0, hA, hlk, hG⟩ hT hK ad H locs ls hh hv hs hc1 hc2
  exact hrow ls _ p l e R s m args below meth c H locs _ _ Fin hx hb (hK _ hT ad H locs ls hh hv hs hc1 hc2)
/-- a branch on one number, on two -/
def gx_br1 (cc : ByteArray) (ct cf : Int32 → Prop) (pc tg nx : Nat) : Prop := ∀ (p : Program) (l : Launch) (e : Env) (R : Room) (s : State) (m : MethodId) (args : Array Value) (below : List Frame) (meth : Method) (c : Code) (H : Heap) (locs : List Loc) (cells slots : Nat) (Fin : State → Prop) (ls : Array Slot) (rest : List Value) (a : Int32), p.tables.exec = Jvm.exec → c.code = cc → (ct a → W p l e R s m args below meth c H locs cells slots Fin (F0 m tg ls rest)) → (cf a → W p l e R s m args below meth c H locs cells slots Fin (F0 m nx ls rest)) → W p l e R s m args below meth c H locs cells slots Fin (F0 m pc ls (.int a :: rest))
def gx_br2 (cc : ByteArray) (ct cf : Int32 → Int32 → Prop) (pc tg nx : Nat) : Prop := ∀ (p : Program) (l : Launch) (e : Env) (R : Room) (s : State) (m : MethodId) (args : Array Value) (below : List Frame) (meth : Method) (c : Code) (H : Heap) (locs : List Loc) (cells slots : Nat) (Fin : State → Prop) (ls : Array Slot) (rest : List Value) (a b : Int32), p.tables.exec = Jvm.exec → c.code = cc → (ct a b → W p l e R s m args below meth c H locs cells slots Fin (F0 m tg ls rest)) → (cf a b → W p l e R s m args below meth c H locs cells slots Fin (F0 m nx ls rest)) → W p l e R s m args below meth c H locs cells slots Fin (F0 m pc ls (.int b :: .int a :: rest))
theorem gs_if {ct cf : Int32 → Prop} {tg : Nat} (hrow : gx_br1 cc ct cf pc tg nx) : gx_s1 (cl, tyl, G, Ts, cc, my, nL, ret) pc (gi_if ct cf tg nx) := by
  rintro ⟨p, l, e, R, s, m, args, below, meth, c⟩ ⟨D, dT, sp, A, n0, ad0⟩ Fin lv st h bc bs K Q C ⟨⟨hx, hb, hml, hown, hnm0, hret⟩, hts, hK0, hA, hlk, hG⟩ hT hK ad H locs ls hh hv hs hc1 hc2
  rcases st with _ | ⟨v, st⟩
  · exact False.elim hT
  cases v with
  | int a =>
    have hs' : gx_Rs st h.length := (fun w e1 => hs w (List.mem_cons_of_mem _ e1))
    exact hrow p l e R s m args below meth c H locs _ _ Fin ls _ a hx hb (fun q => hK _ (hT.1 q) ad H locs ls hh hv hs' hc1 hc2) (fun q => hK _ (hT.2 q) ad H locs ls hh hv hs' hc1 hc2)
  | _ => exact False.elim hT
theorem gs_cmp {ct cf : Int32 → Int32 → Prop} {tg : Nat} (hrow : gx_br2 cc ct cf pc tg nx) : gx_s1 (cl, tyl, G, Ts, cc, my, nL, ret) pc (gi_cmp ct cf tg nx) := by
  rintro ⟨p, l, e, R, s, m, args, below, meth, c⟩ ⟨D, dT, sp, A, n0, ad0⟩ Fin lv st h bc bs K Q C ⟨⟨hx, hb, hml, hown, hnm0, hret⟩, hts, hK0, hA, hlk, hG⟩ hT hK ad H locs ls hh hv hs hc1 hc2
  rcases st with _ | ⟨v, st⟩
  · exact False.elim hT
  cases v with
  | int b =>
    rcases st with _ | ⟨v, st⟩
    · exact False.elim hT
    cases v with
    | int a =>
      have hs' : gx_Rs st h.length := (fun w e1 => hs w (List.mem_cons_of_mem _ (List.mem_cons_of_mem _ e1)))
      exact hrow p l e R s m args below meth c H locs _ _ Fin ls _ a b hx hb (fun q => hK _ (hT.1 q) ad H locs ls hh hv hs' hc1 hc2) (fun q => hK _ (hT.2 q) ad H locs ls hh hv hs' hc1 hc2)
    | _ => exact False.elim hT
  | _ => exact False.elim hT
theorem gs_dup (hd : decode cc pc = .ok (.dup, 1)) : gx_s1 (cl, tyl, G, Ts, cc, my, nL, ret) pc (gi_dup (pc + 1)) := by
  rintro ⟨p, l, e, R, s, m, args, below, meth, c⟩ ⟨D, dT, sp, A, n0, ad0⟩ Fin lv st h bc bs K Q C ⟨⟨hx, hb, hml, hown, hnm0, hret⟩, hts, hK0, hA, hlk, hG⟩ hT hK ad H locs ls hh hv hs hc1 hc2
  rcases st with _ | ⟨v, st⟩
  · exact False.elim hT
  cases hc : Nat.beq v.category 1 with
  | false => simp only [gi_dup, hc] at hT
  | true =>
    simp only [gi_dup, hc] at hT
    exact lv_dup hx hb hd (by rw [gx_v_cat]; exact Nat.eq_of_beq_eq_true hc) (hK _ hT ad H locs ls hh hv (fun w hm => by
          rcases List.mem_cons.mp hm with e1 | e1
          · rw [e1]; exact hs v List.mem_cons_self
          · exact hs w e1) hc1 hc2)
theorem gs_pop (hd : decode cc pc = .ok (.pop, 1)) : gx_s1 (cl, tyl, G, Ts, cc, my, nL, ret) pc (gi_pop (pc + 1)) := by
  rintro ⟨p, l, e, R, s, m, args, below, meth, c⟩ ⟨D, dT, sp, A, n0, ad0⟩ Fin lv st h bc bs K Q C ⟨⟨hx, hb, hml, hown, hnm0, hret⟩, hts, hK0, hA, hlk, hG⟩ hT hK ad H locs ls hh hv hs hc1 hc2
  rcases st with _ | ⟨v, st⟩
  · exact False.elim hT
  cases hc : Nat.beq v.category 1 with
  | false => simp only [gi_pop, hc] at hT
  | true =>
    simp only [gi_pop, hc] at hT
    exact lv_pop hx hb hd (by rw [gx_v_cat]; exact Nat.eq_of_beq_eq_true hc) (hK _ hT ad H locs ls hh hv (fun w e1 => hs w (List.mem_cons_of_mem _ e1)) hc1 hc2)
theorem gs_dup2 (hd : decode cc pc = .ok (.dup2, 1)) : gx_s1 (cl, tyl, G, Ts, cc, my, nL, ret) pc (gi_dup2 (pc + 1)) := by
  rintro ⟨p, l, e, R, s, m, args, below, meth, c⟩ ⟨D, dT, sp, A, n0, ad0⟩ Fin lv st h bc bs K Q C ⟨⟨hx, hb, hml, hown, hnm0, hret⟩, hts, hK0, hA, hlk, hG⟩ hT hK ad H locs ls hh hv hs hc1 hc2
  rcases st with _ | ⟨v, _ | ⟨w, st⟩⟩
  · exact False.elim hT
  · exact False.elim hT
  cases hc : Nat.beq v.category 1 with
  | false => simp only [gi_dup2, hc] at hT
  | true =>
    cases hw : Nat.beq w.category 1 with
    | false => simp only [gi_dup2, hc, hw] at hT
    | true =>
      simp only [gi_dup2, hc, hw] at hT
      exact lv_dup2_11 hx hb hd (by rw [gx_v_cat]; exact Nat.eq_of_beq_eq_true hc) (by rw [gx_v_cat]; exact Nat.eq_of_beq_eq_true hw) (hK _ hT ad H locs ls hh hv (fun u hm => by
        rcases List.mem_cons.mp hm with e1 | e1
        · rw [e1]; exact hs v List.mem_cons_self
        · rcases List.mem_cons.mp e1 with e2 | e2
          · rw [e2]; exact hs w (List.mem_cons_of_mem _ List.mem_cons_self)
          · exact hs u e2) hc1 hc2)
/-- the locals as a list for the kit -/
def gx_ll (sp ad : Nat → Nat) (lv : List (Option Value)) : List (Nat × Value) := (List.range lv.length).filterMap (fun i => match lv[i]? with
  | some (some v) => some (i, gx_v sp ad v)
  | _ => none)
theorem gx_ll_mem {sp ad : Nat → Nat} {lv : List (Option Value)} {i : Nat} {v : Value} (h : lv[i]? = some (some v)) : (i, gx_v sp ad v) ∈ gx_ll sp ad lv := by
  refine List.mem_filterMap.mpr ⟨i, List.mem_range.mpr (List.getElem?_eq_some_iff.mp h).1, ?_⟩
  rw [h]
theorem gx_ll_has {sp ad : Nat → Nat} {lv : List (Option Value)} {n : Nat} {ls : Array Slot} (h : gx_Rv sp nL lv n ad ls) : lv_has ls nL (gx_ll sp ad lv) := by
  refine ⟨h.1, h.2.1, fun q hq => ?_⟩
  obtain ⟨i, -, hi⟩ := List.mem_filterMap.mp hq
  cases hl : lv[i]? with
  | none => rw [hl] at hi; cases hi
  | some o =>
    cases o with
    | none => rw [hl] at hi; cases hi
    | some v =>
      rw [hl] at hi
      cases hi
      exact (h.2.2.2 i v hl).1
theorem gx_Rv.set {sp ad : Nat → Nat} {lv : List (Option Value)} {n i : Nat} {v : Value} {ls ls' : Array Slot} (h : gx_Rv sp nL lv n ad ls) (hok : gx_ok n v) (hcv : v.category = 1)
    (h' : lv_has ls' nL ((i, gx_v sp ad v) :: (gx_ll sp ad lv).filter (fun q => !(q.1 == i) && !(q.1 + 1 == i && q.2.category == 2)))) : gx_Rv sp nL (lv.set i (some v)) n ad ls' := by
  refine ⟨h'.1, h'.2.1, by rw [List.length_set]; exact h.2.2.1, fun j u hj => ?_⟩
  rw [List.getElem?_set] at hj
  by_cases hij : i = j
  · rw [if_pos hij] at hj
    by_cases hl : i < lv.length
    · rw [if_pos hl] at hj
      cases hj
      exact ⟨by rw [← hij]; exact h'.2.2 (i, gx_v sp ad v) List.mem_cons_self, hok, hcv⟩
    · rw [if_neg hl] at hj
      cases hj
  · rw [if_neg hij] at hj
    refine ⟨h'.2.2 (j, gx_v sp ad u) (List.mem_cons_of_mem _ (List.mem_filter.mpr ⟨gx_ll_mem hj, ?_⟩)), (h.2.2.2 j u hj).2⟩
    have h1 : (j == i) = false := by rw [beq_eq_false_iff_ne]; exact fun z => hij z.symm
    have h2 : ((gx_v sp ad u).category == 2) = false := by rw [gx_v_cat, (h.2.2.2 j u hj).2.2]; rfl
    show (!(j == i) && !(j + 1 == i && (gx_v sp ad u).category == 2)) = true
    rw [h1, h2]
    simp
/-- a store into local i -/
def gx_stR (cc : ByteArray) (nL i pc nx : Nat) (v : Value) : Prop := ∀ (p : Program) (l : Launch) (e : Env) (R : Room) (s : State) (m : MethodId) (args : Array Value) (below : List Frame) (meth : Method) (c : Code) (H : Heap) (locs : List Loc) (cells slots : Nat) (Fin : State → Prop) (ls : Array Slot) (rest : List Value) (l1 : List (Nat × Value)), p.tables.exec = Jvm.exec → c.code = cc → lv_has ls nL l1 → i < nL → (∀ ls' : Array Slot, lv_has ls' nL ((i, v) :: l1.filter (fun q => !(q.1 == i) && !(q.1 + 1 == i && q.2.category == 2))) → W p l e R s m args below meth c H locs cells slots Fin (F0 m nx ls' rest)) → W p l e R s m args below meth c H locs cells slots Fin (F0 m pc ls (v :: rest))
theorem gs_ist {i : Nat} (hrow : ∀ x : Int32, gx_stR cc nL i pc nx (.int x)) : gx_s1 (cl, tyl, G, Ts, cc, my, nL, ret) pc (gi_st gx_isI i nx) := by
  rintro ⟨p, l, e, R, s, m, args, below, meth, c⟩ ⟨D, dT, sp, A, n0, ad0⟩ Fin lv st h bc bs K Q C ⟨⟨hx, hb, hml, hown, hnm0, hret⟩, hts, hK0, hA, hlk, hG⟩ hT hK ad H locs ls hh hv hs hc1 hc2
  rcases st with _ | ⟨v, st⟩
  · exact False.elim hT
  cases hi : lv[i]? with
  | none => simp only [gi_st, hi] at hT
  | some o =>
    have hlt : i < nL := Nat.lt_of_lt_of_le (List.getElem?_eq_some_iff.mp hi).1 hv.2.2.1
    have hs' : gx_Rs st h.length := (fun w e1 => hs w (List.mem_cons_of_mem _ e1))
    have hv1 : gx_ok h.length v := hs v List.mem_cons_self
    cases v with
    | int x =>
      simp only [gi_st, hi, gx_isI] at hT
      exact hrow x p l e R s m args below meth c H locs _ _ Fin ls _ _ hx hb (gx_ll_has hv) hlt (fun ls' hl' => hK _ hT ad H locs ls' hh (hv.set hv1 rfl hl') hs' hc1 hc2)
    | _ =>
      simp only [gi_st, hi, gx_isI] at hT
theorem gs_rst {i : Nat} (hrow : ∀ x : Option Nat, gx_stR cc nL i pc nx (va_rf x)) : gx_s1 (cl, tyl, G, Ts, cc, my, nL, ret) pc (gi_st gx_isR i nx) := by
  rintro ⟨p, l, e, R, s, m, args, below, meth, c⟩ ⟨D, dT, sp, A, n0, ad0⟩ Fin lv st h bc bs K Q C ⟨⟨hx, hb, hml, hown, hnm0, hret⟩, hts, hK0, hA, hlk, hG⟩ hT hK ad H locs ls hh hv hs hc1 hc2
  rcases st with _ | ⟨v, st⟩
  · exact False.elim hT
  cases hi : lv[i]? with
  | none => simp only [gi_st, hi] at hT
  | some o =>
    have hlt : i < nL := Nat.lt_of_lt_of_le (List.getElem?_eq_some_iff.mp hi).1 hv.2.2.1
    have hs' : gx_Rs st h.length := (fun w e1 => hs w (List.mem_cons_of_mem _ e1))
    have hv1 : gx_ok h.length v := hs v List.mem_cons_self
    cases v with
    | ref k =>
      simp only [gi_st, hi, gx_isR] at hT
      exact hrow (some (ad k)) p l e R s m args below meth c H locs _ _ Fin ls _ _ hx hb (gx_ll_has hv) hlt (fun ls' hl' => hK _ hT ad H locs ls' hh (hv.set hv1 rfl hl') hs' hc1 hc2)
    | retAddr k =>
      simp only [gi_st, hi, gx_isR] at hT
      exact hrow (some (sp k)) p l e R s m args below meth c H locs _ _ Fin ls _ _ hx hb (gx_ll_has hv) hlt (fun ls' hl' => hK _ hT ad H locs ls' hh (hv.set hv1 rfl hl') hs' hc1 hc2)
    | null =>
      simp only [gi_st, hi, gx_isR] at hT
      exact hrow none p l e R s m args below meth c H locs _ _ Fin ls _ _ hx hb (gx_ll_has hv) hlt (fun ls' hl' => hK _ hT ad H locs ls' hh (hv.set hv1 rfl hl') hs' hc1 hc2)
    | _ =>
      simp only [gi_st, hi, gx_isR] at hT
theorem gs_inc {i : Nat} {n : Int} (hd : decode cc pc = .ok (.iinc i n, 3)) : gx_s1 (cl, tyl, G, Ts, cc, my, nL, ret) pc (gi_inc i (Int32.ofInt n) (pc + 3)) := by
  rintro ⟨p, l, e, R, s, m, args, below, meth, c⟩ ⟨D, dT, sp, A, n0, ad0⟩ Fin lv st h bc bs K Q C ⟨⟨hx, hb, hml, hown, hnm0, hret⟩, hts, hK0, hA, hlk, hG⟩ hT hK ad H locs ls hh hv hs hc1 hc2
  cases hi : lv[i]? with
  | none => simp only [gi_inc, hi] at hT
  | some o =>
    have hlt : i < nL := Nat.lt_of_lt_of_le (List.getElem?_eq_some_iff.mp hi).1 hv.2.2.1
    cases o with
    | none => simp only [gi_inc, hi] at hT
    | some v =>
      cases v with
      | int x =>
        simp only [gi_inc, hi] at hT
        obtain ⟨k, hk⟩ := List.getElem?_of_mem (gx_ll_mem (sp := sp) (ad := ad) hi)
        exact lv_iinc hx hb hd (gx_ll_has hv) hk rfl hlt rfl (fun ls' hl' => hK _ hT ad H locs ls' hh (hv.set (v := .int (x + Int32.ofInt n)) trivial rfl hl') hs hc1 hc2)
      | _ =>
        simp only [gi_inc, hi] at hT
theorem gs_ifnull {off : Int} {tg : Nat} (hd : decode cc pc = .ok (.ifnull off, 3)) (ht : (pc : Int) + off = (tg : Int)) : gx_s1 (cl, tyl, G, Ts, cc, my, nL, ret) pc (gi_nul tg (pc + 3)) := by
  rintro ⟨p, l, e, R, s, m, args, below, meth, c⟩ ⟨D, dT, sp, A, n0, ad0⟩ Fin lv st h bc bs K Q C ⟨⟨hx, hb, hml, hown, hnm0, hret⟩, hts, hK0, hA, hlk, hG⟩ hT hK ad H locs ls hh hv hs hc1 hc2
  rcases st with _ | ⟨v, st⟩
  · exact False.elim hT
  have hs' : gx_Rs st h.length := (fun w e1 => hs w (List.mem_cons_of_mem _ e1))
  cases v with
  | null => exact lv_ifnullN hx hb hd ht (hK _ hT ad H locs ls hh hv hs' hc1 hc2)
  | ref k => exact lv_ifnull hx hb hd (hK _ hT ad H locs ls hh hv hs' hc1 hc2)
  | _ => exact False.elim hT
theorem gs_ifnonnull {off : Int} {tg : Nat} (hd : decode cc pc = .ok (.ifnonnull off, 3)) (ht : (pc : Int) + off = (tg : Int)) : gx_s1 (cl, tyl, G, Ts, cc, my, nL, ret) pc (gi_nul (pc + 3) tg) := by
  rintro ⟨p, l, e, R, s, m, args, below, meth, c⟩ ⟨D, dT, sp, A, n0, ad0⟩ Fin lv st h bc bs K Q C ⟨⟨hx, hb, hml, hown, hnm0, hret⟩, hts, hK0, hA, hlk, hG⟩ hT hK ad H locs ls hh hv hs hc1 hc2
  rcases st with _ | ⟨v, st⟩
  · exact False.elim hT
  have hs' : gx_Rs st h.length := (fun w e1 => hs w (List.mem_cons_of_mem _ e1))
  cases v with
  | null => exact lv_ifnonnullN hx hb hd (hK _ hT ad H locs ls hh hv hs' hc1 hc2)
  | ref k => exact lv_ifnonnull hx hb hd ht (hK _ hT ad H locs ls hh hv hs' hc1 hc2)
  | _ => exact False.elim hT
theorem gx_narrow {ty : FieldType} {sp ad : Nat → Nat} {v : Value} (h : narrow ty (gx_r v) = gx_r v) : narrow ty (gx_v sp ad v) = gx_v sp ad v := by
  cases v with
  | ref k => cases ty <;> rfl
  | retAddr k => cases ty <;> rfl
  | _ => exact h
theorem gx_fits {ty : FieldType} {sp ad : Nat → Nat} {v : Value} (h : fits ty (gx_r v) = true) : fits ty (gx_v sp ad v) = true := by
  cases v with
  | ref k => cases ty <;> exact h
  | retAddr k => cases ty <;> exact h
  | _ => exact h
theorem gs_get {ci k idx N : Nat} {Cn : String} {T : u_T} (hc : cl[ci]? = some (Cn, T, N)) (hin : ∀ w ∈ u_ws Cn T N, w ∈ Ts) (hk : k < N) (hlink : Cond.fieldLink my.cls idx (T k).1 (T k).2.1 (T k).2.2.1 ∈ Ts) (hd : decode cc pc = .ok (.getfield idx, 3)) : gx_s1 (cl, tyl, G, Ts, cc, my, nL, ret) pc (gi_get ci k (pc + 3)) := by
  rintro ⟨p, l, e, R, s, m, args, below, meth, c⟩ ⟨D, dT, sp, A, n0, ad0⟩ Fin lv st h bc bs K Q C ⟨⟨hx, hb, hml, hown, hnm0, hret⟩, hts, hK0, hA, hlk, hG⟩ hT hK ad H locs ls hh hv hs hc1 hc2
  rcases st with _ | ⟨v0, st⟩
  · exact False.elim hT
  cases v0 with
  | ref a =>
    cases hcell : h[a]? with
    | none => simp only [gi_get, hcell] at hT
    | some ce =>
      obtain ⟨t0, x0⟩ | ⟨c0, fs⟩ := ce
      · simp only [gi_get, hcell] at hT
      · cases hb1 : Nat.beq c0 ci with
        | false => simp only [gi_get, hcell, hb1] at hT
        | true =>
          cases hf : fs[k]? with
          | none => simp only [gi_get, hcell, hb1, hf] at hT
          | some v =>
            simp only [gi_get, hcell, hb1, hf] at hT
            have e0 : c0 = ci := Nat.eq_of_beq_eq_true hb1
            subst e0
            obtain ⟨hP, hD, hS, hok, hn0, had⟩ := id hh
            have hvok : gx_ok h.length v := hok a _ hcell v (List.mem_of_getElem? hf)
            exact va_get hx hb hts hin hown hK0 hP a (gx_w_at hcell) hc k hk (hts _ hlink) (fun _ q => q) (v := gx_v sp ad v) (by rw [List.getElem?_map, hf]; rfl) hd (hK _ hT ad H locs ls hh hv (fun w hm => by
          rcases List.mem_cons.mp hm with e1 | e1
          · rw [e1]; exact hvok
          · exact hs w (List.mem_cons_of_mem _ e1)) hc1 hc2)
  | _ => exact False.elim hT
theorem gs_getN {ci k idx N : Nat} {Cn host : String} {T : u_T} (hc : cl[ci]? = some (Cn, T, N)) (hin : ∀ w ∈ u_ws Cn T N, w ∈ Ts) (hk : k < N) (hlink : Cond.fieldLinkNest my.cls idx (T k).1 (T k).2.1 (T k).2.2.1 host ∈ Ts) (hd : decode cc pc = .ok (.getfield idx, 3)) : gx_s1 (cl, tyl, G, Ts, cc, my, nL, ret) pc (gi_get ci k (pc + 3)) := by
  rintro ⟨p, l, e, R, s, m, args, below, meth, c⟩ ⟨D, dT, sp, A, n0, ad0⟩ Fin lv st h bc bs K Q C ⟨⟨hx, hb, hml, hown, hnm0, hret⟩, hts, hK0, hA, hlk, hG⟩ hT hK ad H locs ls hh hv hs hc1 hc2
  rcases st with _ | ⟨v0, st⟩
  · exact False.elim hT
  cases v0 with
  | ref a =>
    cases hcell : h[a]? with
    | none => simp only [gi_get, hcell] at hT
    | some ce =>
      obtain ⟨t0, x0⟩ | ⟨c0, fs⟩ := ce
      · simp only [gi_get, hcell] at hT
      · cases hb1 : Nat.beq c0 ci with
        | false => simp only [gi_get, hcell, hb1] at hT
        | true =>
          cases hf : fs[k]? with
          | none => simp only [gi_get, hcell, hb1, hf] at hT
          | some v =>
            simp only [gi_get, hcell, hb1, hf] at hT
            have e0 : c0 = ci := Nat.eq_of_beq_eq_true hb1
            subst e0
            obtain ⟨hP, hD, hS, hok, hn0, had⟩ := id hh
            have hvok : gx_ok h.length v := hok a _ hcell v (List.mem_of_getElem? hf)
            exact va_getN hx hb hts hin hown hK0 hP a (gx_w_at hcell) hc k hk (hts _ hlink) (fun _ q => q) (v := gx_v sp ad v) (by rw [List.getElem?_map, hf]; rfl) hd (hK _ hT ad H locs ls hh hv (fun w hm => by
          rcases List.mem_cons.mp hm with e1 | e1
          · rw [e1]; exact hvok
          · exact hs w (List.mem_cons_of_mem _ e1)) hc1 hc2)
  | _ => exact False.elim hT
theorem gs_putF {ci k idx N : Nat} {Cn : String} {T : u_T} {ty : FieldType} (hc : cl[ci]? = some (Cn, T, N)) (hin : ∀ w ∈ u_ws Cn T N, w ∈ Ts) (ty0 : Nat → FieldType) (hty : ∀ k, k < N → parseFieldDescriptor (T k).2.2.1 = some (ty0 k)) (hnm : ∀ a, a < N → ∀ b, b < N → a ≠ b → (T a).2.1 ≠ (T b).2.1) (hk : k < N) (hty1 : parseFieldDescriptor (T k).2.2.1 = some ty) (hlink : Cond.fieldLink my.cls idx (T k).1 (T k).2.1 (T k).2.2.1 ∈ Ts) (hfin : (T k).2.2.2 = true) (hini : my.name = "<init>") (hdecl : (T k).1 = my.cls) (hd : decode cc pc = .ok (.putfield idx, 3)) : gx_s1 (cl, tyl, G, Ts, cc, my, nL, ret) pc (gi_put ci k ty (pc + 3)) := by
  rintro ⟨p, l, e, R, s, m, args, below, meth, c⟩ ⟨D, dT, sp, A, n0, ad0⟩ Fin lv st h bc bs K Q C ⟨⟨hx, hb, hml, hown, hnm0, hret⟩, hts, hK0, hA, hlk, hG⟩ hT hK ad H locs ls hh hv hs hc1 hc2
  rcases st with _ | ⟨v, _ | ⟨v0, st⟩⟩
  · exact False.elim hT
  · exact False.elim hT
  cases v0 with
  | ref a =>
    cases hcell : h[a]? with
    | none => simp only [gi_put, hcell] at hT
    | some ce =>
      obtain ⟨t0, x0⟩ | ⟨c0, fs⟩ := ce
      · simp only [gi_put, hcell] at hT
      · cases hb1 : Nat.beq c0 ci with
        | false => simp only [gi_put, hcell, hb1] at hT
        | true =>
          cases hf : fs[k]? with
          | none => simp only [gi_put, hcell, hb1, hf] at hT
          | some v1 =>
            simp only [gi_put, hcell, hb1, hf] at hT
            have e0 : c0 = ci := Nat.eq_of_beq_eq_true hb1
            subst e0
            obtain ⟨⟨hna, hfi⟩, hT⟩ := hT
            obtain ⟨hP, hD, hS, hok, hn0, had⟩ := id hh
            have hvok : gx_ok h.length v := hs v List.mem_cons_self
            have hkl : k < fs.length := (List.getElem?_eq_some_iff.mp hf).1
            have ew : ∀ fs' : List Value, fs' = (fs.map (gx_v sp ad)).set k (gx_v sp ad v) → (gx_w dT sp ad h).set a (ad a, .inr (c0, fs')) = gx_w dT sp ad (h.set a (.inr (c0, fs.set k v))) := fun fs' e1 => by
              rw [← gx_w_set]
              show _ = (gx_w dT sp ad h).set a (ad a, Sum.inr (c0, (fs.set k v).map (gx_v sp ad)))
              rw [e1, List.map_set]
            refine va_putF hx hb hts hin ty0 hty hnm hown hK0 hP hD hS a (gx_w_at hcell) hc k hk (hts _ hlink) (fun _ q => q) hfin (hnm0.trans hini) hdecl (ty := ty) (v := gx_v sp ad v) hty1 (gx_narrow hna) (gx_fits hfi) (by rw [List.length_map]; exact hkl) hd (fun H1 locs1 hP1 hD1 hS1 => ?_)
            have el : (h.set a (.inr (c0, fs.set k v))).length = h.length := List.length_set
            rw [ew _ rfl] at hP1 hD1
            refine hK _ hT ad H1 locs1 ls ⟨hP1, hD1, hS1, hok.set (fun u hu => ?_), by rw [el]; exact hn0, had⟩ (by rw [el]; exact hv) (by rw [el]; exact (fun w e1 => hs w (List.mem_cons_of_mem _ (List.mem_cons_of_mem _ e1)))) hc1 hc2
            rcases List.mem_or_eq_of_mem_set hu with h9 | h9
            · exact hok a _ hcell u h9
            · rw [h9]; exact hvok
  | _ => exact False.elim hT
theorem gs_put {ci k idx N : Nat} {Cn : String} {T : u_T} {ty : FieldType} (hc : cl[ci]? = some (Cn, T, N)) (hin : ∀ w ∈ u_ws Cn T N, w ∈ Ts) (ty0 : Nat → FieldType) (hty : ∀ k, k < N → parseFieldDescriptor (T k).2.2.1 = some (ty0 k)) (hnm : ∀ a, a < N → ∀ b, b < N → a ≠ b → (T a).2.1 ≠ (T b).2.1) (hk : k < N) (hty1 : parseFieldDescriptor (T k).2.2.1 = some ty) (hlink : Cond.fieldLink my.cls idx (T k).1 (T k).2.1 (T k).2.2.1 ∈ Ts) (hfin : (T k).2.2.2 = false) (hd : decode cc pc = .ok (.putfield idx, 3)) : gx_s1 (cl, tyl, G, Ts, cc, my, nL, ret) pc (gi_put ci k ty (pc + 3)) := by
  rintro ⟨p, l, e, R, s, m, args, below, meth, c⟩ ⟨D, dT, sp, A, n0, ad0⟩ Fin lv st h bc bs K Q C ⟨⟨hx, hb, hml, hown, hnm0, hret⟩, hts, hK0, hA, hlk, hG⟩ hT hK ad H locs ls hh hv hs hc1 hc2
  rcases st with _ | ⟨v, _ | ⟨v0, st⟩⟩
  · exact False.elim hT
  · exact False.elim hT
  cases v0 with
  | ref a =>
    cases hcell : h[a]? with
    | none => simp only [gi_put, hcell] at hT
    | some ce =>
      obtain ⟨t0, x0⟩ | ⟨c0, fs⟩ := ce
      · simp only [gi_put, hcell] at hT
      · cases hb1 : Nat.beq c0 ci with
        | false => simp only [gi_put, hcell, hb1] at hT
        | true =>
          cases hf : fs[k]? with
          | none => simp only [gi_put, hcell, hb1, hf] at hT
          | some v1 =>
            simp only [gi_put, hcell, hb1, hf] at hT
            have e0 : c0 = ci := Nat.eq_of_beq_eq_true hb1
            subst e0
            obtain ⟨⟨hna, hfi⟩, hT⟩ := hT
            obtain ⟨hP, hD, hS, hok, hn0, had⟩ := id hh
            have hvok : gx_ok h.length v := hs v List.mem_cons_self
            have hkl : k < fs.length := (List.getElem?_eq_some_iff.mp hf).1
            have ew : ∀ fs' : List Value, fs' = (fs.map (gx_v sp ad)).set k (gx_v sp ad v) → (gx_w dT sp ad h).set a (ad a, .inr (c0, fs')) = gx_w dT sp ad (h.set a (.inr (c0, fs.set k v))) := fun fs' e1 => by
              rw [← gx_w_set]
              show _ = (gx_w dT sp ad h).set a (ad a, Sum.inr (c0, (fs.set k v).map (gx_v sp ad)))
              rw [e1, List.map_set]
            refine va_put hx hb hts hin ty0 hty hnm hown hK0 hP hD hS a (gx_w_at hcell) hc k hk (hts _ hlink) (fun _ q => q) hfin (ty := ty) (v := gx_v sp ad v) hty1 (gx_narrow hna) (gx_fits hfi) (by rw [List.length_map]; exact hkl) hd (fun H1 locs1 hP1 hD1 hS1 => ?_)
            have el : (h.set a (.inr (c0, fs.set k v))).length = h.length := List.length_set
            rw [ew _ rfl] at hP1 hD1
            refine hK _ hT ad H1 locs1 ls ⟨hP1, hD1, hS1, hok.set (fun u hu => ?_), by rw [el]; exact hn0, had⟩ (by rw [el]; exact hv) (by rw [el]; exact (fun w e1 => hs w (List.mem_cons_of_mem _ (List.mem_cons_of_mem _ e1)))) hc1 hc2
            rcases List.mem_or_eq_of_mem_set hu with h9 | h9
            · exact hok a _ hcell u h9
            · rw [h9]; exact hvok
  | _ => exact False.elim hT
theorem gs_iald {t : Nat} (ht : tyl[t]? = some .int) (hd : decode cc pc = .ok (.iaload, 1)) : gx_s1 (cl, tyl, G, Ts, cc, my, nL, ret) pc (gi_ald t (pc + 1)) := by
  rintro ⟨p, l, e, R, s, m, args, below, meth, c⟩ ⟨D, dT, sp, A, n0, ad0⟩ Fin lv st h bc bs K Q C ⟨⟨hx, hb, hml, hown, hnm0, hret⟩, hts, hK0, hA, hlk, hG⟩ hT hK ad H locs ls hh hv hs hc1 hc2
  rcases st with _ | ⟨v0, st⟩
  · exact False.elim hT
  cases v0 with
  | int i =>
    rcases st with _ | ⟨v1, st⟩
    · exact False.elim hT
    cases v1 with
    | ref a =>
      cases hcell : h[a]? with
      | none => simp only [gi_ald, hcell] at hT
      | some ce =>
        obtain ⟨t0, n, f | x0⟩ | ⟨c0, fs⟩ := ce
        · cases hb1 : Nat.beq t0 t with
          | false => simp only [gi_ald, hcell, hb1] at hT
          | true =>
            simp only [gi_ald, hcell, hb1] at hT
            have e0 : t0 = t := Nat.eq_of_beq_eq_true hb1
            subst e0
            exact va_iald hx hb hK0 hh.1 a t0 (gx_w_at hcell) (gx_ty_at ht) hT.1 hd (hK _ hT.2 ad H locs ls hh hv (fun w hm => by
          rcases List.mem_cons.mp hm with e1 | e1
          · rw [e1]; trivial
          · exact hs w (List.mem_cons_of_mem _ (List.mem_cons_of_mem _ e1))) hc1 hc2)
        · simp only [gi_ald, hcell] at hT
        · simp only [gi_ald, hcell] at hT
    | _ => exact False.elim hT
  | _ => exact False.elim hT
theorem gs_cald {t : Nat} (ht : tyl[t]? = some .char) (hd : decode cc pc = .ok (.caload, 1)) : gx_s1 (cl, tyl, G, Ts, cc, my, nL, ret) pc (gi_ald t (pc + 1)) := by
  rintro ⟨p, l, e, R, s, m, args, below, meth, c⟩ ⟨D, dT, sp, A, n0, ad0⟩ Fin lv st h bc bs K Q C ⟨⟨hx, hb, hml, hown, hnm0, hret⟩, hts, hK0, hA, hlk, hG⟩ hT hK ad H locs ls hh hv hs hc1 hc2
  rcases st with _ | ⟨v0, st⟩
  · exact False.elim hT
  cases v0 with
  | int i =>
    rcases st with _ | ⟨v1, st⟩
    · exact False.elim hT
    cases v1 with
    | ref a =>
      cases hcell : h[a]? with
      | none => simp only [gi_ald, hcell] at hT
      | some ce =>
        obtain ⟨t0, n, f | x0⟩ | ⟨c0, fs⟩ := ce
        · cases hb1 : Nat.beq t0 t with
          | false => simp only [gi_ald, hcell, hb1] at hT
          | true =>
            simp only [gi_ald, hcell, hb1] at hT
            have e0 : t0 = t := Nat.eq_of_beq_eq_true hb1
            subst e0
            exact va_cald hx hb hK0 hh.1 a t0 (gx_w_at hcell) (gx_ty_at ht) hT.1 hd (hK _ hT.2 ad H locs ls hh hv (fun w hm => by
          rcases List.mem_cons.mp hm with e1 | e1
          · rw [e1]; trivial
          · exact hs w (List.mem_cons_of_mem _ (List.mem_cons_of_mem _ e1))) hc1 hc2)
        · simp only [gi_ald, hcell] at hT
        · simp only [gi_ald, hcell] at hT
    | _ => exact False.elim hT
  | _ => exact False.elim hT
theorem gs_zald {t : Nat} (ht : tyl[t]? = some .boolean) (hd : decode cc pc = .ok (.baload, 1)) : gx_s1 (cl, tyl, G, Ts, cc, my, nL, ret) pc (gi_ald t (pc + 1)) := by
  rintro ⟨p, l, e, R, s, m, args, below, meth, c⟩ ⟨D, dT, sp, A, n0, ad0⟩ Fin lv st h bc bs K Q C ⟨⟨hx, hb, hml, hown, hnm0, hret⟩, hts, hK0, hA, hlk, hG⟩ hT hK ad H locs ls hh hv hs hc1 hc2
  rcases st with _ | ⟨v0, st⟩
  · exact False.elim hT
  cases v0 with
  | int i =>
    rcases st with _ | ⟨v1, st⟩
    · exact False.elim hT
    cases v1 with
    | ref a =>
      cases hcell : h[a]? with
      | none => simp only [gi_ald, hcell] at hT
      | some ce =>
        obtain ⟨t0, n, f | x0⟩ | ⟨c0, fs⟩ := ce
        · cases hb1 : Nat.beq t0 t with
          | false => simp only [gi_ald, hcell, hb1] at hT
          | true =>
            simp only [gi_ald, hcell, hb1] at hT
            have e0 : t0 = t := Nat.eq_of_beq_eq_true hb1
            subst e0
            exact va_zald hx hb hK0 hh.1 a t0 (gx_w_at hcell) (gx_ty_at ht) hT.1 hd (hK _ hT.2 ad H locs ls hh hv (fun w hm => by
          rcases List.mem_cons.mp hm with e1 | e1
          · rw [e1]; trivial
          · exact hs w (List.mem_cons_of_mem _ (List.mem_cons_of_mem _ e1))) hc1 hc2)
        · simp only [gi_ald, hcell] at hT
        · simp only [gi_ald, hcell] at hT
    | _ => exact False.elim hT
  | _ => exact False.elim hT
theorem gs_iast {t : Nat} (ht : tyl[t]? = some .int) (hd : decode cc pc = .ok (.iastore, 1)) : gx_s1 (cl, tyl, G, Ts, cc, my, nL, ret) pc (gi_ast t (fun z => z) (pc + 1)) := by
  rintro ⟨p, l, e, R, s, m, args, below, meth, c⟩ ⟨D, dT, sp, A, n0, ad0⟩ Fin lv st h bc bs K Q C ⟨⟨hx, hb, hml, hown, hnm0, hret⟩, hts, hK0, hA, hlk, hG⟩ hT hK ad H locs ls hh hv hs hc1 hc2
  rcases st with _ | ⟨v0, st⟩
  · exact False.elim hT
  cases v0 with
  | int x =>
    rcases st with _ | ⟨v1, st⟩
    · exact False.elim hT
    cases v1 with
    | int i =>
      rcases st with _ | ⟨v2, st⟩
      · exact False.elim hT
      cases v2 with
      | ref a =>
        cases hcell : h[a]? with
        | none => simp only [gi_ast, hcell] at hT
        | some ce =>
          obtain ⟨t0, n, f | x0⟩ | ⟨c0, fs⟩ := ce
          · cases hb1 : Nat.beq t0 t with
            | false => simp only [gi_ast, hcell, hb1] at hT
            | true =>
              simp only [gi_ast, hcell, hb1] at hT
              have e0 : t0 = t := Nat.eq_of_beq_eq_true hb1
              subst e0
              obtain ⟨hP, hD, hS, hok, hn0, had⟩ := id hh
              refine va_iast hx hb hK0 hP hD hS a t0 (gx_w_at hcell) (gx_ty_at ht) hT.1 hd (fun H1 locs1 hP1 hD1 hS1 => ?_)
              have ew : (gx_w dT sp ad h).set a (ad a, .inl (dT t0, n, .inl (upd f i.toNatClampNeg ((fun z => z) x)))) = gx_w dT sp ad (h.set a (.inl (t0, n, .inl (upd f i.toNatClampNeg ((fun z => z) x))))) := gx_w_set dT sp ad h a (.inl (t0, n, .inl (upd f i.toNatClampNeg ((fun z => z) x))))
              have el : (h.set a (.inl (t0, n, .inl (upd f i.toNatClampNeg ((fun z => z) x))))).length = h.length := List.length_set
              have hP1' : va_P D cl (gx_w dT sp ad (h.set a (.inl (t0, n, .inl (upd f i.toNatClampNeg ((fun z => z) x)))))) H1 := by rw [← ew]; exact hP1
              have hD1' : va_D A (gx_w dT sp ad (h.set a (.inl (t0, n, .inl (upd f i.toNatClampNeg ((fun z => z) x)))))) := by rw [← ew]; exact hD1
              exact hK _ hT.2 ad H1 locs1 ls ⟨hP1', hD1', hS1, hok.set trivial, by rw [el]; exact hn0, had⟩ (by rw [el]; exact hv) (by rw [el]; exact (fun w e1 => hs w (List.mem_cons_of_mem _ (List.mem_cons_of_mem _ (List.mem_cons_of_mem _ e1))))) hc1 hc2
          · simp only [gi_ast, hcell] at hT
          · simp only [gi_ast, hcell] at hT
      | _ => exact False.elim hT
    | _ => exact False.elim hT
  | _ => exact False.elim hT
theorem gs_cast {t : Nat} (ht : tyl[t]? = some .char) (hd : decode cc pc = .ok (.castore, 1)) : gx_s1 (cl, tyl, G, Ts, cc, my, nL, ret) pc (gi_ast t (vp_nar .char) (pc + 1)) := by
  rintro ⟨p, l, e, R, s, m, args, below, meth, c⟩ ⟨D, dT, sp, A, n0, ad0⟩ Fin lv st h bc bs K Q C ⟨⟨hx, hb, hml, hown, hnm0, hret⟩, hts, hK0, hA, hlk, hG⟩ hT hK ad H locs ls hh hv hs hc1 hc2
  rcases st with _ | ⟨v0, st⟩
  · exact False.elim hT
  cases v0 with
  | int x =>
    rcases st with _ | ⟨v1, st⟩
    · exact False.elim hT
    cases v1 with
    | int i =>
      rcases st with _ | ⟨v2, st⟩
      · exact False.elim hT
      cases v2 with
      | ref a =>
        cases hcell : h[a]? with
        | none => simp only [gi_ast, hcell] at hT
        | some ce =>
          obtain ⟨t0, n, f | x0⟩ | ⟨c0, fs⟩ := ce
          · cases hb1 : Nat.beq t0 t with
            | false => simp only [gi_ast, hcell, hb1] at hT
            | true =>
              simp only [gi_ast, hcell, hb1] at hT
              have e0 : t0 = t := Nat.eq_of_beq_eq_true hb1
              subst e0
              obtain ⟨hP, hD, hS, hok, hn0, had⟩ := id hh
              refine va_cast hx hb hK0 hP hD hS a t0 (gx_w_at hcell) (gx_ty_at ht) hT.1 hd (fun H1 locs1 hP1 hD1 hS1 => ?_)
              have ew : (gx_w dT sp ad h).set a (ad a, .inl (dT t0, n, .inl (upd f i.toNatClampNeg ((vp_nar .char) x)))) = gx_w dT sp ad (h.set a (.inl (t0, n, .inl (upd f i.toNatClampNeg ((vp_nar .char) x))))) := gx_w_set dT sp ad h a (.inl (t0, n, .inl (upd f i.toNatClampNeg ((vp_nar .char) x))))
              have el : (h.set a (.inl (t0, n, .inl (upd f i.toNatClampNeg ((vp_nar .char) x))))).length = h.length := List.length_set
              have hP1' : va_P D cl (gx_w dT sp ad (h.set a (.inl (t0, n, .inl (upd f i.toNatClampNeg ((vp_nar .char) x)))))) H1 := by rw [← ew]; exact hP1
              have hD1' : va_D A (gx_w dT sp ad (h.set a (.inl (t0, n, .inl (upd f i.toNatClampNeg ((vp_nar .char) x)))))) := by rw [← ew]; exact hD1
              exact hK _ hT.2 ad H1 locs1 ls ⟨hP1', hD1', hS1, hok.set trivial, by rw [el]; exact hn0, had⟩ (by rw [el]; exact hv) (by rw [el]; exact (fun w e1 => hs w (List.mem_cons_of_mem _ (List.mem_cons_of_mem _ (List.mem_cons_of_mem _ e1))))) hc1 hc2
          · simp only [gi_ast, hcell] at hT
          · simp only [gi_ast, hcell] at hT
      | _ => exact False.elim hT
    | _ => exact False.elim hT
  | _ => exact False.elim hT
theorem gs_zast {t : Nat} (ht : tyl[t]? = some .boolean) (hd : decode cc pc = .ok (.bastore, 1)) : gx_s1 (cl, tyl, G, Ts, cc, my, nL, ret) pc (gi_ast t (vp_nar .boolean) (pc + 1)) := by
  rintro ⟨p, l, e, R, s, m, args, below, meth, c⟩ ⟨D, dT, sp, A, n0, ad0⟩ Fin lv st h bc bs K Q C ⟨⟨hx, hb, hml, hown, hnm0, hret⟩, hts, hK0, hA, hlk, hG⟩ hT hK ad H locs ls hh hv hs hc1 hc2
  rcases st with _ | ⟨v0, st⟩
  · exact False.elim hT
  cases v0 with
  | int x =>
    rcases st with _ | ⟨v1, st⟩
    · exact False.elim hT
    cases v1 with
    | int i =>
      rcases st with _ | ⟨v2, st⟩
      · exact False.elim hT
      cases v2 with
      | ref a =>
        cases hcell : h[a]? with
        | none => simp only [gi_ast, hcell] at hT
        | some ce =>
          obtain ⟨t0, n, f | x0⟩ | ⟨c0, fs⟩ := ce
          · cases hb1 : Nat.beq t0 t with
            | false => simp only [gi_ast, hcell, hb1] at hT
            | true =>
              simp only [gi_ast, hcell, hb1] at hT
              have e0 : t0 = t := Nat.eq_of_beq_eq_true hb1
              subst e0
              obtain ⟨hP, hD, hS, hok, hn0, had⟩ := id hh
              refine va_zast hx hb hK0 hP hD hS a t0 (gx_w_at hcell) (gx_ty_at ht) hT.1 hd (fun H1 locs1 hP1 hD1 hS1 => ?_)
              have ew : (gx_w dT sp ad h).set a (ad a, .inl (dT t0, n, .inl (upd f i.toNatClampNeg ((vp_nar .boolean) x)))) = gx_w dT sp ad (h.set a (.inl (t0, n, .inl (upd f i.toNatClampNeg ((vp_nar .boolean) x))))) := gx_w_set dT sp ad h a (.inl (t0, n, .inl (upd f i.toNatClampNeg ((vp_nar .boolean) x))))
              have el : (h.set a (.inl (t0, n, .inl (upd f i.toNatClampNeg ((vp_nar .boolean) x))))).length = h.length := List.length_set
              have hP1' : va_P D cl (gx_w dT sp ad (h.set a (.inl (t0, n, .inl (upd f i.toNatClampNeg ((vp_nar .boolean) x)))))) H1 := by rw [← ew]; exact hP1
              have hD1' : va_D A (gx_w dT sp ad (h.set a (.inl (t0, n, .inl (upd f i.toNatClampNeg ((vp_nar .boolean) x)))))) := by rw [← ew]; exact hD1
              exact hK _ hT.2 ad H1 locs1 ls ⟨hP1', hD1', hS1, hok.set trivial, by rw [el]; exact hn0, had⟩ (by rw [el]; exact hv) (by rw [el]; exact (fun w e1 => hs w (List.mem_cons_of_mem _ (List.mem_cons_of_mem _ (List.mem_cons_of_mem _ e1))))) hc1 hc2
          · simp only [gi_ast, hcell] at hT
          · simp only [gi_ast, hcell] at hT
      | _ => exact False.elim hT
    | _ => exact False.elim hT
  | _ => exact False.elim hT
end GXS
end
section
/-! Ends, new cells, calls. Written by wip/tools/calls.py. -/
section GXC
variable {cl : List vw_C} {tyl : List FieldType} {Ts : List Cond} {G : (Nat → Prop) → State → Heap → Prop} {cc : ByteArray} {my : MethodName} {nL : Nat} {ret : Option FieldType} {pc nx : Nat}
/-- a heap behind a method -/
def gx_Re (cl : List vw_C) (y : gx_D) (h : gx_H) (ad : Nat → Nat) (st t : State) : Prop := match y with
  | (D, dT, sp, A, n0, ad0) => (va_P D cl (gx_w dT sp ad h) t.heap ∧ va_D A (gx_w dT sp ad h) ∧ gx_okH h ∧ n0 ≤ h.length ∧ ∀ k, k < n0 → ad k = ad0 k) ∧ va_F A st t
def gx_Q (cl : List vw_C) (y : gx_D) (Q : gx_R → Prop) : Array Value → State → Outcome → State → Prop := fun _ st o t => ∃ (v : Option Value) (h : gx_H) (ad : Nat → Nat), Q (.inl v, h) ∧ o = .returned (v.map (gx_v y.2.2.1 ad)) ∧ (∀ u, v = some u → gx_ok h.length u) ∧ gx_Re cl y h ad st t
def gx_XC (cl : List vw_C) (y : gx_D) (Q : gx_R → Prop) : String → State → State → Prop := fun E st t => ∃ (h : gx_H) (ad : Nat → Nat), Q (.inr E, h) ∧ gx_Re cl y h ad st t
def gx_Fin (z : gx_M) (x : gx_C) (y : gx_D) (Q : gx_R → Prop) : State → Prop := match z, x, y with
  | (cl, _, _, _, _, _, _, _), (_, _, _, R, s, _, args, below, _, _), (D, dT, sp, A, n0, ad0) => vx_MQ below (gx_Q cl (D, dT, sp, A, n0, ad0) Q) (gx_XC cl (D, dT, sp, A, n0, ad0) Q) args s R.cells R.slots A
/-- an instruction that ends the method is right at pc -/
def gx_sR (z : gx_M) (pc : Nat) (T : gx_T) : Prop := ∀ (x : gx_C) (y : gx_D) (lv : List (Option Value)) (st : List Value) (h : gx_H) (bc bs : Nat) (K : gx_S → Prop) (Q : gx_R → Prop) (C : Nat → gx_S → (gx_R → Prop) → Prop),
  gx_Cx z x y → T (pc, lv, st, h, bc, bs) K Q C → gx_Gd z x y (gx_Fin z x y Q) (pc, lv, st, h, bc, bs)
theorem gs_iret {ty : FieldType} (hd : decode cc pc = .ok (.ireturn, 1)) : gx_sR (cl, tyl, G, Ts, cc, my, nL, some ty) pc (gi_iret ty) := by
  rintro ⟨p, l, e, R, s, m, args, below, meth, c⟩ ⟨D, dT, sp, A, n0, ad0⟩  lv st h bc bs K Q C ⟨⟨hx, hb, hml, hown, hnm0, hret⟩, hts, hK0, hA, hlk, hG⟩ hT ad H locs ls hh hv hs hc1 hc2
  rcases st with _ | ⟨v, st⟩
  · exact False.elim hT
  cases v with
  | int a =>
    rcases st with _ | ⟨v, st⟩
    · obtain ⟨hn, hQ⟩ := hT
      obtain ⟨hP, hD, hS, hok, hn0, had⟩ := hh
      refine vx_ret (W.widen (k := R.cells) (n := R.slots) (Nat.sub_le _ _) (Nat.sub_le _ _) ?_)
      exact W.zret hx hb hret hn (fun t ht hW => ⟨some (.int a), h, ad, hQ, rfl, (fun u hu => by cases hu; trivial), ⟨by rw [ht]; exact hP, hD, hok, hn0, had⟩, hS.F ht⟩) hS.2.2 hd hlk
    · exact False.elim hT
  | _ => exact False.elim hT
theorem gs_ret (hd : decode cc pc = .ok (.return_, 1)) : gx_sR (cl, tyl, G, Ts, cc, my, nL, none) pc gi_ret := by
  rintro ⟨p, l, e, R, s, m, args, below, meth, c⟩ ⟨D, dT, sp, A, n0, ad0⟩  lv st h bc bs K Q C ⟨⟨hx, hb, hml, hown, hnm0, hret⟩, hts, hK0, hA, hlk, hG⟩ hT ad H locs ls hh hv hs hc1 hc2
  rcases st with _ | ⟨v, st⟩
  · obtain ⟨hP, hD, hS, hok, hn0, had⟩ := hh
    refine vx_ret (W.widen (k := R.cells) (n := R.slots) (Nat.sub_le _ _) (Nat.sub_le _ _) ?_)
    exact W.vret hx hb hret (fun t ht hW => ⟨none, h, ad, hT, rfl, (fun u hu => by cases hu), ⟨by rw [ht]; exact hP, hD, hok, hn0, had⟩, hS.F ht⟩) hS.2.2 hd hlk
  · exact False.elim hT
theorem gs_newi {t : Nat} (ht : tyl[t]? = some .int) (hw : Cond.arrayClass .int ∈ Ts) (hd : decode cc pc = .ok (.newarray .int, 2)) : gx_s1 (cl, tyl, G, Ts, cc, my, nL, ret) pc (gi_newa t (pc + 2)) := by
  rintro ⟨p, l, e, R, s, m, args, below, meth, c⟩ ⟨D, dT, sp, A, n0, ad0⟩ Fin lv st h bc bs K Q C ⟨⟨hx, hb, hml, hown, hnm0, hret⟩, hts, hK0, hA, hlk, hG⟩ hT hK ad H locs ls hh hv hs hc1 hc2
  rcases st with _ | ⟨v, st⟩
  · exact False.elim hT
  cases v with
  | int n =>
    obtain ⟨⟨hn, hby⟩, ⟨hb1, hb2⟩, hT⟩ := hT
    obtain ⟨hP, hD, hS, hok, hn0, had⟩ := hh
    refine va_newa (atype := .int) hx hb (hts _ hw) rfl hK0 hP hD hS hA (a0 := (n.toNatClampNeg, .inl (fun _ => 0))) (fun cA => rfl) hn rfl (Nat.le_trans (Nat.mul_le_mul_left _ (by decide)) hby) (by omega) (by omega) hd (fun q cA H1 hK1 hP1 hD1 hS1 => ?_)
    have e1 : cA = dT t := by
      have h1 : s.vm.findClass ("[" ++ (FieldType.int).toString) = some cA := (hK1.2 (gx_ty dT tyl).length (cA, .int) (by rw [List.getElem?_append_right (Nat.le_refl _), Nat.sub_self]; rfl)).2
      have h2 : s.vm.findClass ("[" ++ (FieldType.int).toString) = some (dT t) := (hK0.2 t (dT t, .int) (gx_ty_at ht)).2
      exact Option.some.inj (h1.symm.trans h2)
    subst e1
    have hlen : (h ++ [(Sum.inl (t, n.toNatClampNeg, Sum.inl (fun _ => 0)) : gx_E)]).length = h.length + 1 := by simp
    have hext : ∀ k, k < h.length → (fun k => if k = h.length then q else ad k) k = ad k := fun k hk => if_neg (Nat.ne_of_lt hk)
    have ew : gx_w dT sp (fun k => if k = h.length then q else ad k) (h ++ [(Sum.inl (t, n.toNatClampNeg, Sum.inl (fun _ => 0)) : gx_E)]) = gx_w dT sp ad h ++ [(q, .inl (dT t, n.toNatClampNeg, .inl (fun _ => 0)))] := by
      rw [gx_w.push (ad := ad) _ hok hext]
      congr 1
      show [((if h.length = h.length then q else ad h.length), _)] = _
      rw [if_pos rfl]
      rfl
    have hst : (st.map (gx_v sp ad)) = st.map (gx_v sp (fun k => if k = h.length then q else ad k)) := List.map_congr_left (fun v hm => (gx_v.ext (hs v (List.mem_cons_of_mem _ hm)) hext).symm)
    rw [show R.cells - bc + 1 = R.cells - (bc - 1) by omega, show R.slots - bs + n.toNatClampNeg = R.slots - (bs - n.toNatClampNeg) by omega, hst]
    have hg := hK _ hT (fun k => if k = h.length then q else ad k) H1 locs ls ⟨by rw [ew]; exact hP1, by rw [ew]; exact hD1, hS1, hok.push trivial, by rw [hlen]; omega, fun k hk => (hext k (Nat.lt_of_lt_of_le hk hn0)).trans (had k hk)⟩
      ⟨hv.1, hv.2.1, hv.2.2.1, fun i v hi => ⟨by rw [gx_v.ext (hv.2.2.2 i v hi).2.1 hext]; exact (hv.2.2.2 i v hi).1, (hv.2.2.2 i v hi).2.1.le (by rw [hlen]; omega), (hv.2.2.2 i v hi).2.2⟩⟩
      (fun v hm => by
        rcases List.mem_cons.mp hm with e1 | e1
        · rw [e1]; show h.length < (h ++ [_]).length; rw [hlen]; omega
        · exact (hs v (List.mem_cons_of_mem _ e1)).le (by rw [hlen]; omega)) (by omega) (by omega)
    rw [List.map_cons] at hg
    have e0 : gx_v sp (fun k => if k = h.length then q else ad k) (.ref h.length) = .ref q := by
      show Value.ref (if h.length = h.length then q else ad h.length) = .ref q
      rw [if_pos rfl]
    rw [e0] at hg
    exact hg
  | _ => exact False.elim hT
theorem gs_newc {t : Nat} (ht : tyl[t]? = some .char) (hw : Cond.arrayClass .char ∈ Ts) (hd : decode cc pc = .ok (.newarray .char, 2)) : gx_s1 (cl, tyl, G, Ts, cc, my, nL, ret) pc (gi_newa t (pc + 2)) := by
  rintro ⟨p, l, e, R, s, m, args, below, meth, c⟩ ⟨D, dT, sp, A, n0, ad0⟩ Fin lv st h bc bs K Q C ⟨⟨hx, hb, hml, hown, hnm0, hret⟩, hts, hK0, hA, hlk, hG⟩ hT hK ad H locs ls hh hv hs hc1 hc2
  rcases st with _ | ⟨v, st⟩
  · exact False.elim hT
  cases v with
  | int n =>
    obtain ⟨⟨hn, hby⟩, ⟨hb1, hb2⟩, hT⟩ := hT
    obtain ⟨hP, hD, hS, hok, hn0, had⟩ := hh
    refine va_newa (atype := .char) hx hb (hts _ hw) rfl hK0 hP hD hS hA (a0 := (n.toNatClampNeg, .inl (fun _ => 0))) (fun cA => rfl) hn rfl (Nat.le_trans (Nat.mul_le_mul_left _ (by decide)) hby) (by omega) (by omega) hd (fun q cA H1 hK1 hP1 hD1 hS1 => ?_)
    have e1 : cA = dT t := by
      have h1 : s.vm.findClass ("[" ++ (FieldType.char).toString) = some cA := (hK1.2 (gx_ty dT tyl).length (cA, .char) (by rw [List.getElem?_append_right (Nat.le_refl _), Nat.sub_self]; rfl)).2
      have h2 : s.vm.findClass ("[" ++ (FieldType.char).toString) = some (dT t) := (hK0.2 t (dT t, .char) (gx_ty_at ht)).2
      exact Option.some.inj (h1.symm.trans h2)
    subst e1
    have hlen : (h ++ [(Sum.inl (t, n.toNatClampNeg, Sum.inl (fun _ => 0)) : gx_E)]).length = h.length + 1 := by simp
    have hext : ∀ k, k < h.length → (fun k => if k = h.length then q else ad k) k = ad k := fun k hk => if_neg (Nat.ne_of_lt hk)
    have ew : gx_w dT sp (fun k => if k = h.length then q else ad k) (h ++ [(Sum.inl (t, n.toNatClampNeg, Sum.inl (fun _ => 0)) : gx_E)]) = gx_w dT sp ad h ++ [(q, .inl (dT t, n.toNatClampNeg, .inl (fun _ => 0)))] := by
      rw [gx_w.push (ad := ad) _ hok hext]
      congr 1
      show [((if h.length = h.length then q else ad h.length), _)] = _
      rw [if_pos rfl]
      rfl
    have hst : (st.map (gx_v sp ad)) = st.map (gx_v sp (fun k => if k = h.length then q else ad k)) := List.map_congr_left (fun v hm => (gx_v.ext (hs v (List.mem_cons_of_mem _ hm)) hext).symm)
    rw [show R.cells - bc + 1 = R.cells - (bc - 1) by omega, show R.slots - bs + n.toNatClampNeg = R.slots - (bs - n.toNatClampNeg) by omega, hst]
    have hg := hK _ hT (fun k => if k = h.length then q else ad k) H1 locs ls ⟨by rw [ew]; exact hP1, by rw [ew]; exact hD1, hS1, hok.push trivial, by rw [hlen]; omega, fun k hk => (hext k (Nat.lt_of_lt_of_le hk hn0)).trans (had k hk)⟩
      ⟨hv.1, hv.2.1, hv.2.2.1, fun i v hi => ⟨by rw [gx_v.ext (hv.2.2.2 i v hi).2.1 hext]; exact (hv.2.2.2 i v hi).1, (hv.2.2.2 i v hi).2.1.le (by rw [hlen]; omega), (hv.2.2.2 i v hi).2.2⟩⟩
      (fun v hm => by
        rcases List.mem_cons.mp hm with e1 | e1
        · rw [e1]; show h.length < (h ++ [_]).length; rw [hlen]; omega
        · exact (hs v (List.mem_cons_of_mem _ e1)).le (by rw [hlen]; omega)) (by omega) (by omega)
    rw [List.map_cons] at hg
    have e0 : gx_v sp (fun k => if k = h.length then q else ad k) (.ref h.length) = .ref q := by
      show Value.ref (if h.length = h.length then q else ad h.length) = .ref q
      rw [if_pos rfl]
    rw [e0] at hg
    exact hg
  | _ => exact False.elim hT
theorem gs_newz {t : Nat} (ht : tyl[t]? = some .boolean) (hw : Cond.arrayClass .boolean ∈ Ts) (hd : decode cc pc = .ok (.newarray .boolean, 2)) : gx_s1 (cl, tyl, G, Ts, cc, my, nL, ret) pc (gi_newa t (pc + 2)) := by
  rintro ⟨p, l, e, R, s, m, args, below, meth, c⟩ ⟨D, dT, sp, A, n0, ad0⟩ Fin lv st h bc bs K Q C ⟨⟨hx, hb, hml, hown, hnm0, hret⟩, hts, hK0, hA, hlk, hG⟩ hT hK ad H locs ls hh hv hs hc1 hc2
  rcases st with _ | ⟨v, st⟩
  · exact False.elim hT
  cases v with
  | int n =>
    obtain ⟨⟨hn, hby⟩, ⟨hb1, hb2⟩, hT⟩ := hT
    obtain ⟨hP, hD, hS, hok, hn0, had⟩ := hh
    refine va_newa (atype := .boolean) hx hb (hts _ hw) rfl hK0 hP hD hS hA (a0 := (n.toNatClampNeg, .inl (fun _ => 0))) (fun cA => rfl) hn rfl (Nat.le_trans (Nat.mul_le_mul_left _ (by decide)) hby) (by omega) (by omega) hd (fun q cA H1 hK1 hP1 hD1 hS1 => ?_)
    have e1 : cA = dT t := by
      have h1 : s.vm.findClass ("[" ++ (FieldType.boolean).toString) = some cA := (hK1.2 (gx_ty dT tyl).length (cA, .boolean) (by rw [List.getElem?_append_right (Nat.le_refl _), Nat.sub_self]; rfl)).2
      have h2 : s.vm.findClass ("[" ++ (FieldType.boolean).toString) = some (dT t) := (hK0.2 t (dT t, .boolean) (gx_ty_at ht)).2
      exact Option.some.inj (h1.symm.trans h2)
    subst e1
    have hlen : (h ++ [(Sum.inl (t, n.toNatClampNeg, Sum.inl (fun _ => 0)) : gx_E)]).length = h.length + 1 := by simp
    have hext : ∀ k, k < h.length → (fun k => if k = h.length then q else ad k) k = ad k := fun k hk => if_neg (Nat.ne_of_lt hk)
    have ew : gx_w dT sp (fun k => if k = h.length then q else ad k) (h ++ [(Sum.inl (t, n.toNatClampNeg, Sum.inl (fun _ => 0)) : gx_E)]) = gx_w dT sp ad h ++ [(q, .inl (dT t, n.toNatClampNeg, .inl (fun _ => 0)))] := by
      rw [gx_w.push (ad := ad) _ hok hext]
      congr 1
      show [((if h.length = h.length then q else ad h.length), _)] = _
      rw [if_pos rfl]
      rfl
    have hst : (st.map (gx_v sp ad)) = st.map (gx_v sp (fun k => if k = h.length then q else ad k)) := List.map_congr_left (fun v hm => (gx_v.ext (hs v (List.mem_cons_of_mem _ hm)) hext).symm)
    rw [show R.cells - bc + 1 = R.cells - (bc - 1) by omega, show R.slots - bs + n.toNatClampNeg = R.slots - (bs - n.toNatClampNeg) by omega, hst]
    have hg := hK _ hT (fun k => if k = h.length then q else ad k) H1 locs ls ⟨by rw [ew]; exact hP1, by rw [ew]; exact hD1, hS1, hok.push trivial, by rw [hlen]; omega, fun k hk => (hext k (Nat.lt_of_lt_of_le hk hn0)).trans (had k hk)⟩
      ⟨hv.1, hv.2.1, hv.2.2.1, fun i v hi => ⟨by rw [gx_v.ext (hv.2.2.2 i v hi).2.1 hext]; exact (hv.2.2.2 i v hi).1, (hv.2.2.2 i v hi).2.1.le (by rw [hlen]; omega), (hv.2.2.2 i v hi).2.2⟩⟩
      (fun v hm => by
        rcases List.mem_cons.mp hm with e1 | e1
        · rw [e1]; show h.length < (h ++ [_]).length; rw [hlen]; omega
        · exact (hs v (List.mem_cons_of_mem _ e1)).le (by rw [hlen]; omega)) (by omega) (by omega)
    rw [List.map_cons] at hg
    have e0 : gx_v sp (fun k => if k = h.length then q else ad k) (.ref h.length) = .ref q := by
      show Value.ref (if h.length = h.length then q else ad h.length) = .ref q
      rw [if_pos rfl]
    rw [e0] at hg
    exact hg
  | _ => exact False.elim hT
theorem gs_new {ci N idx : Nat} {Cn : String} {T : u_T} {fs : List Value} (hc : cl[ci]? = some (Cn, T, N)) (hin : ∀ w ∈ u_ws Cn T N, w ∈ Ts) (ty0 : Nat → FieldType) (hty : ∀ k, k < N → parseFieldDescriptor (T k).2.2.1 = some (ty0 k)) (hfs : ∀ j, j < N → defaultValue (ty0 j) = vp_V fs j) (hf0 : ∀ u ∈ fs, gx_ok 0 u ∧ ∀ sp ad, gx_v sp ad u = u) (hlink : Cond.classLink my.cls idx Cn ∈ Ts) (hinst : Cond.instantiable Cn N ∈ Ts) (hini : Cond.initialized Cn ∈ Ts) (hd : decode cc pc = .ok (.new idx, 3)) : gx_s1 (cl, tyl, G, Ts, cc, my, nL, ret) pc (gi_new ci N fs (pc + 3)) := by
  rintro ⟨p, l, e, R, s, m, args, below, meth, c⟩ ⟨D, dT, sp, A, n0, ad0⟩ Fin lv st h bc bs K Q C ⟨⟨hx, hb, hml, hown, hnm0, hret⟩, hts, hK0, hA, hlk, hG⟩ hT hK ad H locs ls hh hv hs hc1 hc2
  obtain ⟨hP, hD, hS, hok, hn0, had⟩ := hh
  obtain ⟨⟨hb1, hb2⟩, hT⟩ := hT
  refine va_new hx hb hts hin ty0 hty hown (hts _ hlink) (hts _ hinst) (hts _ hini) hK0 hP hD hS hA hc (fs := fs) hfs (by omega) (by omega) hd (fun q H1 hP1 hD1 hS1 => ?_)
  have hlen : (h ++ [(Sum.inr (ci, fs) : gx_E)]).length = h.length + 1 := by simp
  have hext : ∀ k, k < h.length → (fun k => if k = h.length then q else ad k) k = ad k := fun k hk => if_neg (Nat.ne_of_lt hk)
  have ew : gx_w dT sp (fun k => if k = h.length then q else ad k) (h ++ [(Sum.inr (ci, fs) : gx_E)]) = gx_w dT sp ad h ++ [(q, .inr (ci, fs))] := by
    rw [gx_w.push (ad := ad) _ hok hext]
    congr 1
    show [((if h.length = h.length then q else ad h.length), _)] = _
    rw [if_pos rfl]
    show [(q, Sum.inr (ci, fs.map (gx_v sp _)))] = _
    rw [List.map_congr_left (g := fun v => v) (fun v hv => (hf0 v hv).2 _ _), List.map_id']
  have hst : (st.map (gx_v sp ad)) = st.map (gx_v sp (fun k => if k = h.length then q else ad k)) := List.map_congr_left (fun v hm => (gx_v.ext (hs v hm) hext).symm)
  rw [show R.cells - bc + 1 = R.cells - (bc - 1) by omega, show R.slots - bs + N = R.slots - (bs - N) by omega, hst]
  have hg := hK _ hT (fun k => if k = h.length then q else ad k) H1 locs ls ⟨by rw [ew]; exact hP1, by rw [ew]; exact hD1, hS1, hok.push (fun u hu => (hf0 u hu).1.le (Nat.zero_le _)), by rw [hlen]; omega, fun k hk => (hext k (Nat.lt_of_lt_of_le hk hn0)).trans (had k hk)⟩
    ⟨hv.1, hv.2.1, hv.2.2.1, fun i v hi => ⟨by rw [gx_v.ext (hv.2.2.2 i v hi).2.1 hext]; exact (hv.2.2.2 i v hi).1, (hv.2.2.2 i v hi).2.1.le (by rw [hlen]; omega), (hv.2.2.2 i v hi).2.2⟩⟩
    (fun v hm => by
      rcases List.mem_cons.mp hm with e1 | e1
      · rw [e1]; show h.length < (h ++ [_]).length; rw [hlen]; omega
      · exact (hs v e1).le (by rw [hlen]; omega)) (by omega) (by omega)
  rw [List.map_cons] at hg
  have e0 : gx_v sp (fun k => if k = h.length then q else ad k) (.ref h.length) = .ref q := by
    show Value.ref (if h.length = h.length then q else ad h.length) = .ref q
    rw [if_pos rfl]
  rw [e0] at hg
  exact hg
/-- what a caller has of method z' begun with the values As: with d frames left -/
def gx_Mt (l : Launch) (z : gx_M) (D : va_G) (dT : Nat → ClassId) (sp : Nat → Nat) (d : Nat) (E : gx_S) (Q : gx_R → Prop) : Prop := match z, E with
  | (cl, tyl, G, Ts, cc, my, nL, ret), (_, lv, _, h, kc, ks) => ∀ (As : List Value), lv = As.map some ++ List.replicate (nL - As.length) none → (∀ v ∈ As, v.category = 1) → As.length ≤ nL → ∀ (ad : Nat → Nat) (sz : Nat),
    vx_Met l my Ts ({ frames := d + 20, cells := kc, slots := ks, locals := 64 * d + 2000 }) (va_Pc (As.map (gx_v sp ad)) (fun U => U.heap.size = sz ∧ va_P D cl (gx_w dT sp ad h) U.heap ∧ va_K D cl (gx_ty dT tyl) U ∧ va_D (fun _ => True) (gx_w dT sp ad h) ∧ G (va_A (gx_w dT sp ad h) sz) U U.heap ∧ gx_okH h ∧ ∀ v ∈ As, gx_ok h.length v))
      (gx_Q cl (D, dT, sp, va_A (gx_w dT sp ad h) sz, h.length, ad) Q) (gx_XC cl (D, dT, sp, va_A (gx_w dT sp ad h) sz, h.length, ad) Q) kc ks (va_A (gx_w dT sp ad h) sz)
theorem gx_args : ∀ (vs : List Value) (k i : Nat) (v : Value), (∀ u ∈ vs, u.category = 1) → vs[i]? = some v → (k + i, v) ∈ lv_args k vs
  | [], k, i, v, _, h => by simp at h
  | u :: vs, k, 0, v, hc, h => by
    have e : u = v := by simpa using h
    subst e
    exact List.mem_cons_self
  | u :: vs, k, i + 1, v, hc, h => by
    have h1 : vs[i]? = some v := by simpa using h
    have hu : ¬ u.category = 2 := by rw [hc u List.mem_cons_self]; decide
    show (k + (i + 1), v) ∈ (k, u) :: lv_args (if u.category = 2 then k + 2 else k + 1) vs
    rw [if_neg hu, show k + (i + 1) = (k + 1) + i by omega]
    exact List.mem_cons_of_mem _ (gx_args vs (k + 1) i v (fun w hw => hc w (List.mem_cons_of_mem _ hw)) h1)
theorem gx_sl : ∀ (vs : List Value), (∀ u ∈ vs, u.category = 1) → (lg_sl vs).length = vs.length
  | [], _ => rfl
  | u :: vs, hc => by
    have hu : ¬ u.category = 2 := by rw [hc u List.mem_cons_self]; decide
    show ((if u.category = 2 then [Slot.val u, .second] else [.val u]) ++ lg_sl vs).length = vs.length + 1
    rw [if_neg hu, List.length_append, gx_sl vs (fun w hw => hc w (List.mem_cons_of_mem _ hw))]
    simp; omega
/-- a body that is right is a contract -/
theorem gx_Mt.of {l : Launch} {D : va_G} {dT : Nat → ClassId} {sp : Nat → Nat} {d : Nat} {lv : List (Option Value)} {h : gx_H} {kc ks : Nat} {Q : gx_R → Prop} {Ts' : List Cond} (hy : plainName my.cls = true) (hw : Ts = Cond.code my cc nL ret :: Ts')
    (hF : ∀ (x : gx_C) (y : gx_D), x.2.1 = l → y.1 = D → y.2.1 = dT → y.2.2.1 = sp → gx_Cx (cl, tyl, G, Ts, cc, my, nL, ret) x y → (∀ z ∈ x.2.2.2.2.2.2.2.2.2.exceptionTable.toList, False) → x.2.2.2.1.frames = d + 20 → x.2.2.2.1.locals = 64 * d + 2000 → gx_Gd (cl, tyl, G, Ts, cc, my, nL, ret) x y (gx_Fin (cl, tyl, G, Ts, cc, my, nL, ret) x y Q) (0, lv, [], h, kc, ks)) :
    gx_Mt l (cl, tyl, G, Ts, cc, my, nL, ret) D dT sp d (0, lv, [], h, kc, ks) Q := by
  intro As hAs hcat hlen ad sz
  refine vx_ofW (cc := cc) (maxL := nL) (ret := ret) hy hw ?_
  intro p e s m args below meth c s₁ B hml hex hv
  obtain ⟨rfl, hsz, hP, hK, hD0, hG, hok, hoka⟩ := hv
  have hts := atoms_spec (ws := Ts) B.pre
  subst hsz
  have hcv : ∀ u ∈ As.map (gx_v sp ad), u.category = 1 := fun u hu => by
    obtain ⟨v, hv, rfl⟩ := List.mem_map.mp hu
    rw [gx_v_cat]
    exact hcat v hv
  have hsl : (lg_sl (As.map (gx_v sp ad))).length ≤ nL := by rw [gx_sl _ hcv, List.length_map]; exact hlen
  have hl := lv_entry (As.map (gx_v sp ad)) (n := nL) hsl
  rw [lg_entry_eq]
  have hg := hF (p, l, e, (headSpec Ts { frames := d + 20, cells := kc, slots := ks, locals := 64 * d + 2000 }).room, s, m, (As.map (gx_v sp ad)).toArray, below, meth, c) (D, dT, sp, va_A (gx_w dT sp ad h) s.heap.size, h.length, ad) rfl rfl rfl rfl
    ⟨⟨B.exec, B.bytes, hml, findClass_of_methodNamed B.named, (name_of_methodNamed B.named B.method).1, B.returns⟩, hts, hK, fun q hq => Or.inr hq, B.notSynchronized, hG⟩ hex rfl rfl ad s.heap [] _
    ⟨hP, hD0.self, va_S.rf, hok, Nat.le_refl _, fun _ _ => rfl⟩
    ⟨hl.1, hl.2.1, by rw [hAs]; simp; omega, fun i v hi => by
      rw [hAs] at hi
      have hil : i < As.length := by
        by_cases hil : i < As.length
        · exact hil
        · rw [List.getElem?_append_right (by rw [List.length_map]; omega)] at hi
          have h9 := List.eq_of_mem_replicate (List.mem_of_getElem? hi)
          cases h9
      rw [List.getElem?_append_left (by rw [List.length_map]; exact hil), List.getElem?_map] at hi
      cases ha : As[i]? with
      | none => rw [ha] at hi; cases hi
      | some w =>
        rw [ha] at hi
        have e1 : w = v := by simpa using hi
        subst e1
        have hm : w ∈ As := List.mem_of_getElem? ha
        refine ⟨?_, hoka w hm, hcat w hm⟩
        have h8 := hl.2.2 (0 + i, gx_v sp ad w) (gx_args _ 0 i _ hcv (by rw [List.getElem?_map, ha]; rfl))
        rw [Nat.zero_add] at h8
        exact h8⟩
    (fun v hv => by cases hv) (Nat.le_refl _) (Nat.le_refl _)
  have e1 : (headSpec Ts { frames := d + 20, cells := kc, slots := ks, locals := 64 * d + 2000 }).room.cells - kc = 0 := Nat.sub_self kc
  have e2 : (headSpec Ts { frames := d + 20, cells := kc, slots := ks, locals := 64 * d + 2000 }).room.slots - ks = 0 := Nat.sub_self ks
  rw [e1, e2] at hg
  exact hg
/-- behind a call, by what its callee says -/
theorem gx_after {p : Program} {l : Launch} {e : Env} {R : Room} {s : State} {m : MethodId} {args : Array Value} {below : List Frame} {meth : Method} {c : Code} {D : va_G} {dT : Nat → ClassId} {sp : Nat → Nat} {A : Nat → Prop} {n0 : Nat} {ad0 ad : Nat → Nat}
    {lv : List (Option Value)} {st : List Value} {h : gx_H} {bc bs kc ks len : Nat} {K : gx_S → Prop} {Q : gx_R → Prop} {H : Heap} {locs : List Loc} {ls : Array Slot} {st0 : List Value} {a : Array Value} {Fin : State → Prop}
    (run : ∀ T : State, T.heap = H → Stand p l e R s m args below meth c T locs (R.cells - bc) (R.slots - bs) →
      (∃ (v : Option Value) (st₀ t T' : State) (L : List Loc), st₀.heap = H ∧ Stand p l e R s m args below meth c T' (locs ++ L) (R.cells - bc + kc) (R.slots - bs + ks) ∧ (∀ q ∈ L, va_A (gx_w dT sp ad h) H.size q.base) ∧ T'.heap = t.heap ∧ T'.vm = t.vm ∧ gx_Q cl (D, dT, sp, va_A (gx_w dT sp ad h) H.size, h.length, ad) (gx_k lv st (pc + len) (bc - kc) (bs - ks) K Q) a st₀ (.returned v) t ∧
        Goes p e below T (F0 m pc ls st0) T' { F0 m pc ls st0 with pc := pc + len, stack := v.toList ++ st.map (gx_v sp ad) }) ∨
      (∃ (q : Addr) (st₀ t T' : State) (L : List Loc) (E : String) (ce : Cell), st₀.heap = H ∧ Stand p l e R s m args below meth c T' (locs ++ L) (R.cells - bc + kc) (R.slots - bs + ks) ∧ (∀ z ∈ L, va_A (gx_w dT sp ad h) H.size z.base) ∧ T'.heap = t.heap ∧ T'.vm = t.vm ∧ gx_XC cl (D, dT, sp, va_A (gx_w dT sp ad h) H.size, h.length, ad) (gx_k lv st (pc + len) (bc - kc) (bs - ks) K Q) E st₀ t ∧ t.heap[q]? = some ce ∧ ce.vm = .none ∧ s.vm.findClass E = some ce.cls ∧
        Steps p.tables e below (T.setTop (F0 m pc ls st0)) ((T'.setTop { F0 m pc ls st0 with stack := st.map (gx_v sp ad) }).pushFrame (.throwing q))))
    (hA : ∀ q, s.heap.size ≤ q → A q) (hh : gx_Rh cl (D, dT, sp, A, n0, ad0) s h ad H locs) (hv : gx_Rv sp nL lv h.length ad ls) (hs : gx_Rs st h.length) (hc1 : bc ≤ R.cells) (hc2 : bs ≤ R.slots) (hk1 : kc ≤ bc) (hk2 : ks ≤ bs)
    (hK : ∀ S', K S' → gx_Gd (cl, tyl, G, Ts, cc, my, nL, ret) (p, l, e, R, s, m, args, below, meth, c) (D, dT, sp, A, n0, ad0) Fin S')
    (hX : ∀ (E : String) (h' : gx_H) (ad' : Nat → Nat) (H' : Heap) (locs' : List Loc) (q : Addr) (ce : Cell), Q (.inr E, h') → gx_Rh cl (D, dT, sp, A, n0, ad0) s h' ad' H' locs' → gx_Rv sp nL lv h'.length ad' ls → H'[q]? = some ce → ce.vm = .none → s.vm.findClass E = some ce.cls → vx_W p l e R s m args below meth c H' locs' (R.cells - (bc - kc)) (R.slots - (bs - ks)) Fin (F0 m pc ls (st.map (gx_v sp ad))) q) :
    W p l e R s m args below meth c H locs (R.cells - bc) (R.slots - bs) Fin (F0 m pc ls st0) := by
  obtain ⟨hP, hD, hS, hok, hn0, had⟩ := hh
  have hsub : ∀ q, va_A (gx_w dT sp ad h) H.size q → A q := fun q hq => by
    rcases hq with ⟨k, e9, hk⟩ | hq
    · exact hD.2 k (q, e9) hk
    · exact hA q (Nat.le_trans hS.1 hq)
  have key : ∀ (h' : gx_H) (ad' : Nat → Nat) (st₀ t T' : State) (L : List Loc), st₀.heap = H → T'.heap = t.heap → (∀ q ∈ L, va_A (gx_w dT sp ad h) H.size q.base) → gx_Re cl (D, dT, sp, va_A (gx_w dT sp ad h) H.size, h.length, ad) h' ad' st₀ t →
      gx_Rh cl (D, dT, sp, A, n0, ad0) s h' ad' T'.heap (locs ++ L) ∧ gx_Rv sp nL lv h'.length ad' ls ∧ gx_Rs st h'.length ∧ st.map (gx_v sp ad') = st.map (gx_v sp ad) := by
    intro h' ad' st₀ t T' L h0 e1 hL ⟨⟨hP', hD', hok', hn', had'⟩, hF⟩
    refine ⟨⟨by rw [e1]; exact hP', hD'.weaken (fun k q _ hq => hsub q.1 hq), ⟨?_, ?_, ?_⟩, hok', Nat.le_trans hn0 hn', fun k hk => (had' k (Nat.lt_of_lt_of_le hk hn0)).trans (had k hk)⟩, ⟨hv.1, hv.2.1, hv.2.2.1, fun i v hi => ?_⟩, fun v hm => (hs v hm).le hn', List.map_congr_left (fun v hm => gx_v.ext (hs v hm) had')⟩
    · rw [e1]; exact Nat.le_trans hS.1 (by rw [← h0]; exact hF.1)
    · intro q hq hnA
      rw [e1, hF.2 q (by rw [h0]; exact Nat.lt_of_lt_of_le hq hS.1) (fun z => hnA (hsub q z)), h0]
      exact hS.2.1 q hq hnA
    · intro z hz
      rcases List.mem_append.mp hz with hz | hz
      · exact hS.2.2 z hz
      · exact hsub _ (hL z hz)
    · obtain ⟨g1, g2, g3⟩ := hv.2.2.2 i v hi
      exact ⟨by rw [gx_v.ext g2 had']; exact g1, g2.le hn', g3⟩
  have ec : R.cells - bc + kc = R.cells - (bc - kc) := by omega
  have es : R.slots - bs + ks = R.slots - (bs - ks) := by omega
  intro T hT X
  rcases run T hT X with ⟨v, st₀, t, T', L, h0, X', hL, e1, e2, ⟨v', h', ad', hq, hv', hvok, hre⟩, go⟩ | ⟨q, st₀, t, T', L, E, ce, h0, X', hL, e1, e2, ⟨h', ad', hq, hre⟩, hce, hcv, hcl, go⟩
  · obtain ⟨r1, r2, r3, r4⟩ := key h' ad' st₀ t T' L h0 e1 hL hre
    have ev : v = v'.map (gx_v sp ad') := Outcome.returned.inj hv'
    subst ev
    rw [ec, es] at X'
    cases v' with
    | none =>
      obtain ⟨t2, a1, b1⟩ := hK _ hq ad' T'.heap (locs ++ L) ls r1 r2 r3 (Nat.le_trans (Nat.sub_le _ _) hc1) (Nat.le_trans (Nat.sub_le _ _) hc2) T' rfl X'
      rw [r4] at a1
      exact ⟨t2, go t2 a1, b1⟩
    | some u =>
      obtain ⟨t2, a1, b1⟩ := hK _ hq ad' T'.heap (locs ++ L) ls r1 r2 (fun w hm => by
        rcases List.mem_cons.mp hm with e9 | e9
        · rw [e9]; exact hvok u rfl
        · exact r3 w e9) (Nat.le_trans (Nat.sub_le _ _) hc1) (Nat.le_trans (Nat.sub_le _ _) hc2) T' rfl X'
      rw [List.map_cons, r4] at a1
      exact ⟨t2, go t2 a1, b1⟩
  · obtain ⟨r1, r2, r3, r4⟩ := key h' ad' st₀ t T' L h0 e1 hL hre
    rw [ec, es] at X'
    obtain ⟨t2, a1, b1⟩ := hX E h' ad' T'.heap (locs ++ L) q ce hq r1 r2 (by rw [e1]; exact hce) hcv hcl T' rfl X'
    exact ⟨t2, go.trans a1, b1⟩
end GXC
end
section
/-! A row an instruction: by its decode row. Written by wip/tools/instr.py. -/
section GXI
variable {cl : List vw_C} {tyl : List FieldType} {Ts : List Cond} {G : (Nat → Prop) → State → Heap → Prop} {cc : ByteArray} {my : MethodName} {nL : Nat} {ret : Option FieldType} {pc : Nat}
theorem gq_iload_n {i : Fin 4} (d : decode cc pc = .ok (.iload_n i, 1)) : gx_s1 (cl, tyl, G, Ts, cc, my, nL, ret) pc (gi_ld gx_isI i.val (pc + 1)) := gs_ild (fun ls rest x hl p l e R s m args below meth c H locs cells slots Fin hx hb k => lv_iload_n hx hb d rfl hl k)
theorem gq_iload {i : Nat} (d : decode cc pc = .ok (.iload i, 2)) : gx_s1 (cl, tyl, G, Ts, cc, my, nL, ret) pc (gi_ld gx_isI i (pc + 2)) := gs_ild (fun ls rest x hl p l e R s m args below meth c H locs cells slots Fin hx hb k => lv_iload hx hb d hl k)
theorem gq_aload_n {i : Fin 4} (d : decode cc pc = .ok (.aload_n i, 1)) : gx_s1 (cl, tyl, G, Ts, cc, my, nL, ret) pc (gi_ld gx_isR i.val (pc + 1)) := gs_rld (fun ls rest x hl p l e R s m args below meth c H locs cells slots Fin hx hb k => by
    cases x with
    | none => exact lv_aload_nN hx hb d rfl hl k
    | some a => exact lv_aload_n hx hb d rfl hl k)
theorem gq_aload {i : Nat} (d : decode cc pc = .ok (.aload i, 2)) : gx_s1 (cl, tyl, G, Ts, cc, my, nL, ret) pc (gi_ld gx_isR i (pc + 2)) := gs_rld (fun ls rest x hl p l e R s m args below meth c H locs cells slots Fin hx hb k => by
    cases x with
    | none => exact lv_aloadN hx hb d hl k
    | some a => exact lv_aload hx hb d hl k)
theorem gq_istore_n {i : Fin 4} (d : decode cc pc = .ok (.istore_n i, 1)) : gx_s1 (cl, tyl, G, Ts, cc, my, nL, ret) pc (gi_st gx_isI i.val (pc + 1)) := gs_ist (fun x p l e R s m args below meth c H locs cells slots Fin ls rest l1 hx hb hl hn k => lv_istore_n hx hb d rfl hl hn rfl k)
theorem gq_istore {i : Nat} (d : decode cc pc = .ok (.istore i, 2)) : gx_s1 (cl, tyl, G, Ts, cc, my, nL, ret) pc (gi_st gx_isI i (pc + 2)) := gs_ist (fun x p l e R s m args below meth c H locs cells slots Fin ls rest l1 hx hb hl hn k => lv_istore hx hb d hl hn rfl k)
theorem gq_astore_n {i : Fin 4} (d : decode cc pc = .ok (.astore_n i, 1)) : gx_s1 (cl, tyl, G, Ts, cc, my, nL, ret) pc (gi_st gx_isR i.val (pc + 1)) := gs_rst (fun x p l e R s m args below meth c H locs cells slots Fin ls rest l1 hx hb hl hn k => by
    cases x with
    | none => exact lv_astore_nN hx hb d rfl hl hn rfl k
    | some a => exact lv_astore_n hx hb d rfl hl hn rfl k)
theorem gq_astore {i : Nat} (d : decode cc pc = .ok (.astore i, 2)) : gx_s1 (cl, tyl, G, Ts, cc, my, nL, ret) pc (gi_st gx_isR i (pc + 2)) := gs_rst (fun x p l e R s m args below meth c H locs cells slots Fin ls rest l1 hx hb hl hn k => by
    cases x with
    | none => exact lv_astoreN hx hb d hl hn rfl k
    | some a => exact lv_astore hx hb d hl hn rfl k)
theorem gq_iconst {n : Int} {v : Int32} (d : decode cc pc = .ok (.iconst n, 1)) (hv : Int32.ofInt n = v) : gx_s1 (cl, tyl, G, Ts, cc, my, nL, ret) pc (gi_k (.int v) (pc + 1)) := gs_k trivial (fun _ _ => rfl) (fun ls rest p l e R s m args below meth c H locs cells slots Fin hx hb k => lv_iconst hx hb d hv k)
theorem gq_bipush {n : Int} {v : Int32} (d : decode cc pc = .ok (.bipush n, 2)) (hv : (Int8.ofInt n).toInt32 = v) : gx_s1 (cl, tyl, G, Ts, cc, my, nL, ret) pc (gi_k (.int v) (pc + 2)) := gs_k trivial (fun _ _ => rfl) (fun ls rest p l e R s m args below meth c H locs cells slots Fin hx hb k => lv_bipush hx hb d hv k)
theorem gq_sipush {n : Int} {v : Int32} (d : decode cc pc = .ok (.sipush n, 3)) (hv : (Int16.ofInt n).toInt32 = v) : gx_s1 (cl, tyl, G, Ts, cc, my, nL, ret) pc (gi_k (.int v) (pc + 3)) := gs_k trivial (fun _ _ => rfl) (fun ls rest p l e R s m args below meth c H locs cells slots Fin hx hb k => lv_sipush hx hb d hv k)
theorem gq_null (d : decode cc pc = .ok (.aconst_null, 1)) : gx_s1 (cl, tyl, G, Ts, cc, my, nL, ret) pc (gi_k .null (pc + 1)) := gs_k trivial (fun _ _ => rfl) (fun ls rest p l e R s m args below meth c H locs cells slots Fin hx hb k => lv_null hx hb d k)
theorem gq_iadd (d : decode cc pc = .ok (.iadd, 1)) : gx_s1 (cl, tyl, G, Ts, cc, my, nL, ret) pc (gi_bin (fun a b => a + b) (pc + 1)) := gs_bin (fun ls rest a b p l e R s m args below meth c H locs cells slots Fin hx hb k => lv_iadd hx hb d k)
theorem gq_isub (d : decode cc pc = .ok (.isub, 1)) : gx_s1 (cl, tyl, G, Ts, cc, my, nL, ret) pc (gi_bin (fun a b => a - b) (pc + 1)) := gs_bin (fun ls rest a b p l e R s m args below meth c H locs cells slots Fin hx hb k => lv_isub hx hb d k)
theorem gq_imul (d : decode cc pc = .ok (.imul, 1)) : gx_s1 (cl, tyl, G, Ts, cc, my, nL, ret) pc (gi_bin (fun a b => a * b) (pc + 1)) := gs_bin (fun ls rest a b p l e R s m args below meth c H locs cells slots Fin hx hb k => lv_imul hx hb d k)
theorem gq_iand (d : decode cc pc = .ok (.iand, 1)) : gx_s1 (cl, tyl, G, Ts, cc, my, nL, ret) pc (gi_bin (fun a b => a &&& b) (pc + 1)) := gs_bin (fun ls rest a b p l e R s m args below meth c H locs cells slots Fin hx hb k => lv_iand hx hb d k)
theorem gq_ior (d : decode cc pc = .ok (.ior, 1)) : gx_s1 (cl, tyl, G, Ts, cc, my, nL, ret) pc (gi_bin (fun a b => a ||| b) (pc + 1)) := gs_bin (fun ls rest a b p l e R s m args below meth c H locs cells slots Fin hx hb k => lv_ior hx hb d k)
theorem gq_ixor (d : decode cc pc = .ok (.ixor, 1)) : gx_s1 (cl, tyl, G, Ts, cc, my, nL, ret) pc (gi_bin (fun a b => a ^^^ b) (pc + 1)) := gs_bin (fun ls rest a b p l e R s m args below meth c H locs cells slots Fin hx hb k => lv_ixor hx hb d k)
theorem gq_ishl (d : decode cc pc = .ok (.ishl, 1)) : gx_s1 (cl, tyl, G, Ts, cc, my, nL, ret) pc (gi_bin (fun a b => a <<< (b &&& 31)) (pc + 1)) := gs_bin (fun ls rest a b p l e R s m args below meth c H locs cells slots Fin hx hb k => lv_ishl hx hb d k)
theorem gq_ishr (d : decode cc pc = .ok (.ishr, 1)) : gx_s1 (cl, tyl, G, Ts, cc, my, nL, ret) pc (gi_bin (fun a b => a >>> (b &&& 31)) (pc + 1)) := gs_bin (fun ls rest a b p l e R s m args below meth c H locs cells slots Fin hx hb k => lv_ishr hx hb d k)
theorem gq_iushr (d : decode cc pc = .ok (.iushr, 1)) : gx_s1 (cl, tyl, G, Ts, cc, my, nL, ret) pc (gi_bin (fun a b => (a.toUInt32 >>> (b.toUInt32 &&& Int32.toUInt32 31)).toInt32) (pc + 1)) := gs_bin (fun ls rest a b p l e R s m args below meth c H locs cells slots Fin hx hb k => lv_iushr hx hb d rfl k)
theorem gq_idiv (d : decode cc pc = .ok (.idiv, 1)) : gx_s1 (cl, tyl, G, Ts, cc, my, nL, ret) pc (gi_div (fun a b => a / b) (pc + 1)) := gs_div (fun ls rest a b h0 p l e R s m args below meth c H locs cells slots Fin hx hb k => lv_idiv hx hb d h0 k)
theorem gq_irem (d : decode cc pc = .ok (.irem, 1)) : gx_s1 (cl, tyl, G, Ts, cc, my, nL, ret) pc (gi_div (fun a b => a - a / b * b) (pc + 1)) := gs_div (fun ls rest a b h0 p l e R s m args below meth c H locs cells slots Fin hx hb k => lv_irem hx hb d h0 k)
theorem gq_i2c (d : decode cc pc = .ok (.i2c, 1)) : gx_s1 (cl, tyl, G, Ts, cc, my, nL, ret) pc (gi_un (fun a => (a.toUInt32 % 65536).toInt32) (pc + 1)) := gs_un (fun ls rest a p l e R s m args below meth c H locs cells slots Fin hx hb k => lv_i2c hx hb d rfl k)
theorem gq_goto {off : Int} {tg : Nat} (d : decode cc pc = .ok (.goto off, 3)) (ht : (pc : Int) + off = (tg : Int)) : gx_s1 (cl, tyl, G, Ts, cc, my, nL, ret) pc (gi_goto tg) := gs_goto (fun ls rest p l e R s m args below meth c H locs cells slots Fin hx hb k => lv_goto hx hb d ht k)
theorem gq_if_eq {off : Int} {tg : Nat} (d : decode cc pc = .ok (.ifCond .eq off, 3)) (ht : (pc : Int) + off = (tg : Int)) : gx_s1 (cl, tyl, G, Ts, cc, my, nL, ret) pc (gi_if (fun x => x = 0) (fun x => ¬ x = 0) tg (pc + 3)) := gs_if (fun p l e R s m args below meth c H locs cells slots Fin ls rest a hx hb kt kf => lv_if_eq hx hb d ht kt kf)
theorem gq_if_ne {off : Int} {tg : Nat} (d : decode cc pc = .ok (.ifCond .ne off, 3)) (ht : (pc : Int) + off = (tg : Int)) : gx_s1 (cl, tyl, G, Ts, cc, my, nL, ret) pc (gi_if (fun x => ¬ x = 0) (fun x => x = 0) tg (pc + 3)) := gs_if (fun p l e R s m args below meth c H locs cells slots Fin ls rest a hx hb kt kf => lv_if_ne hx hb d ht kt kf)
theorem gq_if_lt {off : Int} {tg : Nat} (d : decode cc pc = .ok (.ifCond .lt off, 3)) (ht : (pc : Int) + off = (tg : Int)) : gx_s1 (cl, tyl, G, Ts, cc, my, nL, ret) pc (gi_if (fun x => x < 0) (fun x => ¬ x < 0) tg (pc + 3)) := gs_if (fun p l e R s m args below meth c H locs cells slots Fin ls rest a hx hb kt kf => lv_if_lt hx hb d ht kt kf)
theorem gq_if_ge {off : Int} {tg : Nat} (d : decode cc pc = .ok (.ifCond .ge off, 3)) (ht : (pc : Int) + off = (tg : Int)) : gx_s1 (cl, tyl, G, Ts, cc, my, nL, ret) pc (gi_if (fun x => ¬ x < 0) (fun x => x < 0) tg (pc + 3)) := gs_if (fun p l e R s m args below meth c H locs cells slots Fin ls rest a hx hb kt kf => lv_if_ge hx hb d ht (fun h => kt (Int32.not_lt.mpr h)) (fun h => kf (Int32.not_le.mp h)))
theorem gq_if_gt {off : Int} {tg : Nat} (d : decode cc pc = .ok (.ifCond .gt off, 3)) (ht : (pc : Int) + off = (tg : Int)) : gx_s1 (cl, tyl, G, Ts, cc, my, nL, ret) pc (gi_if (fun x => 0 < x) (fun x => ¬ 0 < x) tg (pc + 3)) := gs_if (fun p l e R s m args below meth c H locs cells slots Fin ls rest a hx hb kt kf => lv_if_gt hx hb d ht kt kf)
theorem gq_if_le {off : Int} {tg : Nat} (d : decode cc pc = .ok (.ifCond .le off, 3)) (ht : (pc : Int) + off = (tg : Int)) : gx_s1 (cl, tyl, G, Ts, cc, my, nL, ret) pc (gi_if (fun x => ¬ 0 < x) (fun x => 0 < x) tg (pc + 3)) := gs_if (fun p l e R s m args below meth c H locs cells slots Fin ls rest a hx hb kt kf => lv_if_le hx hb d ht (fun h => kt (Int32.not_lt.mpr h)) (fun h => kf (Int32.not_le.mp h)))
theorem gq_icmp_eq {off : Int} {tg : Nat} (d : decode cc pc = .ok (.if_icmp .eq off, 3)) (ht : (pc : Int) + off = (tg : Int)) : gx_s1 (cl, tyl, G, Ts, cc, my, nL, ret) pc (gi_cmp (fun x y => x = y) (fun x y => ¬ x = y) tg (pc + 3)) := gs_cmp (fun p l e R s m args below meth c H locs cells slots Fin ls rest a b hx hb kt kf => lv_icmp_eq hx hb d ht kt kf)
theorem gq_icmp_ne {off : Int} {tg : Nat} (d : decode cc pc = .ok (.if_icmp .ne off, 3)) (ht : (pc : Int) + off = (tg : Int)) : gx_s1 (cl, tyl, G, Ts, cc, my, nL, ret) pc (gi_cmp (fun x y => ¬ x = y) (fun x y => x = y) tg (pc + 3)) := gs_cmp (fun p l e R s m args below meth c H locs cells slots Fin ls rest a b hx hb kt kf => lv_icmp_ne hx hb d ht kt kf)
theorem gq_icmp_lt {off : Int} {tg : Nat} (d : decode cc pc = .ok (.if_icmp .lt off, 3)) (ht : (pc : Int) + off = (tg : Int)) : gx_s1 (cl, tyl, G, Ts, cc, my, nL, ret) pc (gi_cmp (fun x y => x < y) (fun x y => ¬ x < y) tg (pc + 3)) := gs_cmp (fun p l e R s m args below meth c H locs cells slots Fin ls rest a b hx hb kt kf => lv_icmp_lt hx hb d ht kt kf)
theorem gq_icmp_ge {off : Int} {tg : Nat} (d : decode cc pc = .ok (.if_icmp .ge off, 3)) (ht : (pc : Int) + off = (tg : Int)) : gx_s1 (cl, tyl, G, Ts, cc, my, nL, ret) pc (gi_cmp (fun x y => ¬ x < y) (fun x y => x < y) tg (pc + 3)) := gs_cmp (fun p l e R s m args below meth c H locs cells slots Fin ls rest a b hx hb kt kf => lv_icmp_ge hx hb d ht (fun h => kt (Int32.not_lt.mpr h)) (fun h => kf (Int32.not_le.mp h)))
theorem gq_icmp_gt {off : Int} {tg : Nat} (d : decode cc pc = .ok (.if_icmp .gt off, 3)) (ht : (pc : Int) + off = (tg : Int)) : gx_s1 (cl, tyl, G, Ts, cc, my, nL, ret) pc (gi_cmp (fun x y => y < x) (fun x y => ¬ y < x) tg (pc + 3)) := gs_cmp (fun p l e R s m args below meth c H locs cells slots Fin ls rest a b hx hb kt kf => lv_icmp_gt hx hb d ht kt kf)
theorem gq_icmp_le {off : Int} {tg : Nat} (d : decode cc pc = .ok (.if_icmp .le off, 3)) (ht : (pc : Int) + off = (tg : Int)) : gx_s1 (cl, tyl, G, Ts, cc, my, nL, ret) pc (gi_cmp (fun x y => ¬ y < x) (fun x y => y < x) tg (pc + 3)) := gs_cmp (fun p l e R s m args below meth c H locs cells slots Fin ls rest a b hx hb kt kf => lv_icmp_le hx hb d ht (fun h => kt (Int32.not_lt.mpr h)) (fun h => kf (Int32.not_le.mp h)))
end GXI
end
section
/-! The abstract machine is right: what it says of a method is a contract. -/
section GXZ
variable {cl : List vw_C} {tyl : List FieldType} {Ts : List Cond} {G : (Nat → Prop) → State → Heap → Prop} {cc : ByteArray} {my : MethodName} {nL : Nat} {ret : Option FieldType} {pc nx : Nat} {l : Launch} {zs : Nat → gx_M}
/-- all that a table's row owes -/
def gx_Sn (l : Launch) (zs : Nat → gx_M) (z : gx_M) (pc : Nat) (T : gx_T) : Prop := ∀ (x : gx_C) (y : gx_D) (d : Nat) (lv : List (Option Value)) (st : List Value) (h : gx_H) (bc bs : Nat) (K : gx_S → Prop) (Q : gx_R → Prop) (C : Nat → gx_S → (gx_R → Prop) → Prop),
  x.2.1 = l → gx_Cx z x y → (∀ w ∈ x.2.2.2.2.2.2.2.2.2.exceptionTable.toList, False) → x.2.2.2.1.frames = d + 20 → x.2.2.2.1.locals = 64 * d + 2000 → T (pc, lv, st, h, bc, bs) K Q C → (∀ S', K S' → gx_Gd z x y (gx_Fin z x y Q) S') →
  (∀ m' lv' h' kc ks Q', C m' (0, lv', [], h', kc, ks) Q' → ∃ d', d = d' + 1 ∧ gx_Mt l (zs m') y.1 y.2.1 y.2.2.1 d' (0, lv', [], h', kc, ks) Q') → gx_Gd z x y (gx_Fin z x y Q) (pc, lv, st, h, bc, bs)
theorem gx_s1.sn {z : gx_M} {T : gx_T} (h : gx_s1 z pc T) : gx_Sn l zs z pc T := fun x y _ lv st h' bc bs K Q C _ hC _ _ _ hT hK _ => h x y _ lv st h' bc bs K Q C hC hT hK
theorem gx_sR.sn {z : gx_M} {T : gx_T} (h : gx_sR z pc T) : gx_Sn l zs z pc T := fun x y _ lv st h' bc bs K Q C _ hC _ _ _ hT _ _ => h x y lv st h' bc bs K Q C hC hT
theorem gx_Fin.mono {z : gx_M} {x : gx_C} {y : gx_D} {Q Q' : gx_R → Prop} (hq : ∀ r, Q r → Q' r) (t : State) (h : gx_Fin z x y Q t) : gx_Fin z x y Q' t := by
  obtain ⟨cl, tyl, G, Ts, cc, my, nL, ret⟩ := z
  obtain ⟨p, l, e, R, s, m, args, below, meth, c⟩ := x
  obtain ⟨D, dT, sp, A, n0, ad0⟩ := y
  obtain ⟨o, h1, h2, h3⟩ := h
  refine ⟨o, h1, h2, ?_⟩
  rcases h3 with ⟨⟨v, h', ad, hQ, h4⟩, h5⟩ | ⟨q, h4, E, ce, L, ⟨h', ad, hQ, h5⟩, h6⟩
  · exact Or.inl ⟨⟨v, h', ad, hq _ hQ, h4⟩, h5⟩
  · exact Or.inr ⟨q, h4, E, ce, L, ⟨h', ad, hq _ hQ, h5⟩, h6⟩
theorem gx_Gd.mono {z : gx_M} {x : gx_C} {y : gx_D} {F F' : State → Prop} {S : gx_S} (hq : ∀ t, F t → F' t) (h : gx_Gd z x y F S) : gx_Gd z x y F' S := by
  obtain ⟨cl, tyl, G, Ts, cc, my, nL, ret⟩ := z
  obtain ⟨p, l, e, R, s, m, args, below, meth, c⟩ := x
  obtain ⟨D, dT, sp, A, n0, ad0⟩ := y
  obtain ⟨pc, lv, st, h', bc, bs⟩ := S
  intro ad H locs ls h1 h2 h3 h4 h5 T hT X
  obtain ⟨t, a, b⟩ := h ad H locs ls h1 h2 h3 h4 h5 T hT X
  exact ⟨t, a, hq t b⟩
/-- a method's data: its words begin with its code -/
def gx_Zok (z : gx_M) : Prop := ∃ (cl : List vw_C) (tyl : List FieldType) (G : (Nat → Prop) → State → Heap → Prop) (Ts' : List Cond) (cc : ByteArray) (my : MethodName) (nL : Nat) (ret : Option FieldType), z = (cl, tyl, G, Cond.code my cc nL ret :: Ts', cc, my, nL, ret) ∧ plainName my.cls = true
theorem gx_sound {P : gx_P} (hok : ∀ m pc T, P m pc = some T → gx_Sn l zs (zs m) pc T) (hz : ∀ m, gx_Zok (zs m)) {d m : Nat} {lv : List (Option Value)} {h : gx_H} {kc ks : Nat} {Q : gx_R → Prop} (hX : gx_X P d m (0, lv, [], h, kc, ks) Q) (D : va_G) (dT : Nat → ClassId) (sp : Nat → Nat) :
    gx_Mt l (zs m) D dT sp d (0, lv, [], h, kc, ks) Q := by
  have mt : ∀ {d m : Nat} {lv : List (Option Value)} {h : gx_H} {kc ks : Nat} {Q : gx_R → Prop} (D : va_G) (dT : Nat → ClassId) (sp : Nat → Nat),
      (∀ (x : gx_C) (y : gx_D), x.2.1 = l → gx_Cx (zs m) x y → (∀ w ∈ x.2.2.2.2.2.2.2.2.2.exceptionTable.toList, False) → x.2.2.2.1.frames = d + 20 → x.2.2.2.1.locals = 64 * d + 2000 → gx_Gd (zs m) x y (gx_Fin (zs m) x y Q) (0, lv, [], h, kc, ks)) → gx_Mt l (zs m) D dT sp d (0, lv, [], h, kc, ks) Q := by
    intro d m lv h kc ks Q D dT sp hF
    obtain ⟨cl, tyl, G, Ts', cc, my, nL, ret, ez, hy⟩ := hz m
    rw [ez] at hF ⊢
    exact gx_Mt.of hy rfl (fun x y e1 _ _ _ hC hex hf hl => hF x y e1 hC hex hf hl)
  refine mt D dT sp (hX (fun d m S Q => ∀ (x : gx_C) (y : gx_D), x.2.1 = l → gx_Cx (zs m) x y → (∀ w ∈ x.2.2.2.2.2.2.2.2.2.exceptionTable.toList, False) → x.2.2.2.1.frames = d + 20 → x.2.2.2.1.locals = 64 * d + 2000 → gx_Gd (zs m) x y (gx_Fin (zs m) x y Q) S) ?_ ?_)
  · intro d m S Q Q' hq hF x y e1 hC hex hf hl
    exact (hF x y e1 hC hex hf hl).mono (gx_Fin.mono hq)
  · intro d m S Q T K C hT hS hK hC x y e1 hCx hex hf hl
    obtain ⟨pc, lv, st, h, bc, bs⟩ := S
    refine hok m pc T hT x y d lv st h bc bs K Q C e1 hCx hex hf hl hS (fun S' k => hK S' k x y e1 hCx hex hf hl) (fun m' lv' h' kc ks Q' c => ?_)
    obtain ⟨d', e2, f⟩ := hC m' _ Q' c
    exact ⟨d', e2, mt y.1 y.2.1 y.2.2.1 f⟩
/-- a table all of whose rows are right -/
def gx_all (F : Nat → gx_T → Prop) : List (Nat × gx_T) → Prop
  | [] => True
  | q :: r => F q.1 q.2 ∧ gx_all F r
theorem gx_all.mem {F : Nat → gx_T → Prop} : ∀ {tb : List (Nat × gx_T)}, gx_all F tb → ∀ q ∈ tb, F q.1 q.2
  | [], _, q, hq => by cases hq
  | x :: r, h, q, hq => by
    rcases List.mem_cons.mp hq with e | e
    · rw [e]; exact h.1
    · exact gx_all.mem h.2 q e
theorem gx_all.find {F : Nat → gx_T → Prop} {tb : List (Nat × gx_T)} (h : gx_all F tb) {pc : Nat} {T : gx_T} (hf : gx_find pc tb = some T) : F pc T := h.mem (pc, T) (gx_find_mem hf)
/-- the stack at a call -/
theorem gx_stack {sp ad : Nat → Nat} {st : List Value} {n : Nat} : st.map (gx_v sp ad) = ((st.take n).reverse.map (gx_v sp ad)).reverse ++ (st.drop n).map (gx_v sp ad) := by
  rw [← List.map_reverse, List.reverse_reverse, ← List.map_append, List.take_append_drop]
theorem gx_call_inv {m' n nL' bc bs : Nat} {st : List Value} {h : gx_H} {F : Nat → Nat → gx_R → Prop} {C : Nat → gx_S → (gx_R → Prop) → Prop} (hT : gi_callK m' n nL' st h bc bs F C) :
    (((st.drop n).map Value.category).sum ≤ 8 ∧ (∀ v ∈ (st.take n).reverse, v.category = 1) ∧ (st.take n).reverse.length = n) ∧ ∃ kc ks, (kc ≤ bc ∧ ks ≤ bs) ∧ C m' (0, ((st.take n).reverse.map some) ++ List.replicate (nL' - n) none, [], h, kc, ks) (F kc ks) := by
  unfold gi_callK at hT
  cases h1 : Nat.ble ((st.drop n).map Value.category).sum 8 with
  | false => rw [h1] at hT; exact False.elim hT
  | true =>
    cases h2 : (st.take n).all (fun v => Nat.beq v.category 1) with
    | false => rw [h1, h2] at hT; exact False.elim hT
    | true =>
      cases h3 : Nat.beq (st.take n).length n with
      | false => rw [h1, h2, h3] at hT; exact False.elim hT
      | true =>
        rw [h1, h2, h3] at hT
        refine ⟨⟨Nat.le_of_ble_eq_true h1, fun v hv => Nat.eq_of_beq_eq_true (List.all_eq_true.mp h2 v (List.mem_reverse.mp hv)), ?_⟩, hT⟩
        rw [List.length_reverse]
        exact Nat.eq_of_beq_eq_true h3
theorem gx_catsum {sp ad : Nat → Nat} (st : List Value) : ((st.map (gx_v sp ad)).map fun v => v.category).sum = (st.map Value.category).sum := by
  rw [List.map_map]
  congr 1
  exact List.map_congr_left (fun v _ => gx_v_cat sp ad v)
/-- what an old cell's word must keep -/
def gx_Gok (G : (Nat → Prop) → State → Heap → Prop) : Prop := (∀ (A : Nat → Prop) (u U : State) (H : Heap), u.WarmedH U.vm → G A u H → G A U H) ∧ (∀ (A : Nat → Prop) (U : State) (H H1 : Heap), (∀ a : Nat, a < H.size → ¬ A a → H1[a]? = H[a]?) → G A U H → G A U H1) ∧ (∀ (A B : Nat → Prop) (U : State) (H : Heap), (∀ q, B q → A q) → G A U H → G B U H)
theorem gx_G_in {D : va_G} {dT : Nat → ClassId} {sp ad ad0 : Nat → Nat} {A : Nat → Prop} {n0 : Nat} {s : State} {h : gx_H} {H : Heap} {locs : List Loc} (hGo : gx_Gok G) (hA : ∀ q, s.heap.size ≤ q → A q) (hh : gx_Rh cl (D, dT, sp, A, n0, ad0) s h ad H locs) (hG : G A s s.heap) {U : State} (hU : U.heap = H) (hvm : s.WarmedH U.vm) :
    G (va_A (gx_w dT sp ad h) H.size) U U.heap := by
  obtain ⟨hP, hD, hS, -⟩ := hh
  refine hGo.2.2 A _ _ _ (fun q hq => ?_) (hGo.1 A s U _ hvm ?_)
  · rcases hq with ⟨k, e9, hk⟩ | hq
    · exact hD.2 k (q, e9) hk
    · exact hA q (Nat.le_trans hS.1 hq)
  · rw [hU]
    exact hGo.2.1 A s _ _ hS.2.1 hG
end GXZ
end
section
/-! Calls are right. Written by wip/tools/callrows.py. -/
section GXV
variable {cl : List vw_C} {tyl : List FieldType} {Ts : List Cond} {G : (Nat → Prop) → State → Heap → Prop} {cc : ByteArray} {my : MethodName} {nL : Nat} {ret : Option FieldType} {pc : Nat} {l : Launch} {zs : Nat → gx_M}
variable {idx m' k nL' : Nat} {Ts' Ts'' : List Cond} {cc' : ByteArray} {my' : MethodName} {ret' : Option FieldType}
theorem gx_recv {st : List Value} {a : Nat} (hlen : (st.take (k + 1)).reverse.length = k + 1) (ha : st[k]? = some (.ref a)) : ∃ As, (st.take (k + 1)).reverse = .ref a :: As ∧ As.length = k := by
  have hl : (st.take (k + 1)).length = k + 1 := by rw [← List.length_reverse]; exact hlen
  cases hr : (st.take (k + 1)).reverse with
  | nil => rw [hr] at hlen; cases hlen
  | cons v As =>
    have h0 : (st.take (k + 1)).reverse[0]? = some (.ref a) := by
      rw [List.getElem?_reverse (by omega), hl, show k + 1 - 1 - 0 = k by omega, List.getElem?_take, if_pos (by omega)]
      exact ha
    rw [hr] at h0 hlen
    have e : v = .ref a := by simpa using h0
    subst e
    exact ⟨As, rfl, by simpa using hlen⟩
theorem gx_plain {y : MethodName} {ws : List Cond} {rm : Room} {Pc : Array Value → State → Prop} {Qc : Array Value → State → Outcome → State → Prop} {XC : String → State → State → Prop} {mc ms : Nat} {free : Addr → Prop} (h : vx_Met l y ws rm Pc Qc XC mc ms free) (hx : ∀ E st t, XC E st t → False) : Met l y ws rm Pc Qc mc ms free := by
  intro p e ha hc hk s m args below hf happ hP hK
  obtain ⟨n, o, h1, h2, h3, h4⟩ := h p e ha hc hk s m args below hf happ hP hK
  refine ⟨n, o, h1, h2, h3, ?_⟩
  rcases h4 with h4 | ⟨q, -, E, ce, L, hX, -⟩
  · exact h4
  · exact (hx _ _ _ hX).elim
theorem gx_Q.mono {y : gx_D} {Q Q' : gx_R → Prop} {a : Array Value} {st t : State} {o : Outcome} (hq : ∀ r, Q r → Q' r) (h : gx_Q cl y Q a st o t) : gx_Q cl y Q' a st o t := by
  obtain ⟨v, h', ad, h1, h2⟩ := h
  exact ⟨v, h', ad, hq _ h1, h2⟩
theorem gx_k0.to {lv : List (Option Value)} {st : List Value} {nx bc bs : Nat} {K : gx_S → Prop} {Q : gx_R → Prop} (r : gx_R) (h : gx_k0 lv st nx bc bs K r) : gx_k lv st nx bc bs K Q r := by
  obtain ⟨v, hp⟩ := r
  rcases v with v | v
  · cases v with
    | none => exact h
    | some u => exact False.elim h
  · exact False.elim h
theorem gs_callV {ci N : Nat} {Cn : String} {T : u_T} (ez : zs m' = (cl, tyl, G, Ts', cc', my', nL', ret')) (hGo : gx_Gok G) (hG : GoodIn Ts Ts') (hw : Ts' = Cond.code my' cc' nL' ret' :: Ts'') (hc : cl[ci]? = some (Cn, T, N)) (hini : Cond.initialized my'.cls ∈ Ts) (hlink : Cond.methodLink my.cls idx my' ∈ Ts) (hinst : Cond.instanceMethod my' ∈ Ts) (hsel : Cond.selects Cn my' my' ∈ Ts)
    (hd9 : my'.cls ≠ "java/lang/invoke/MethodHandle" ∧ my'.cls ≠ "java/lang/invoke/VarHandle" ∧ (parseMethodDescriptor my'.desc).map (fun d => d.parameters.length) = some k) (hmax : nL' ≤ 45 ∧ k + 1 ≤ nL') (hd : decode cc pc = .ok (.invokevirtual idx, 3)) : gx_Sn l zs (cl, tyl, G, Ts, cc, my, nL, ret) pc (gi_vcall (gx_sel ci m' nL') k (pc + 3)) := by
  rintro ⟨p, l', e, R, s, m, args, below, meth, c⟩ ⟨D, dT, sp, A, n0, ad0⟩ d lv st h bc bs K Q C e1 ⟨⟨hx, hb, hml, hown, hnm0, hret⟩, hts, hK0, hA, hlk, hG0⟩ hex hf hlo hT hK hC ad H locs ls hh hv hs hc1 hc2
  have e1 : l' = l := e1
  subst e1
  have hf : R.frames = d + 20 := hf
  have hlo : R.locals = 64 * d + 2000 := hlo
  cases ha : st[k]? with
  | none => simp only [gi_vcall, ha] at hT
  | some v0 =>
    cases v0 with
    | ref a =>
      cases hcell : h[a]? with
      | none => simp only [gi_vcall, ha, hcell] at hT
      | some ce =>
        obtain ⟨t0, x0⟩ | ⟨c0, fs⟩ := ce
        · simp only [gi_vcall, ha, hcell] at hT
        · cases hb1 : Nat.beq c0 ci with
          | false => simp only [gi_vcall, ha, hcell, gx_sel, hb1] at hT
          | true =>
            simp only [gi_vcall, ha, hcell, gx_sel, hb1] at hT
            have e0 : c0 = ci := Nat.eq_of_beq_eq_true hb1
            subst e0
            obtain ⟨⟨hsum, hcat, hlen⟩, kc, ks, ⟨hk1, hk2⟩, hcall⟩ := gx_call_inv hT
            obtain ⟨d', e2, hM⟩ := hC m' _ _ _ _ _ hcall
            rw [ez] at hM
            obtain ⟨As, eAs, hAl⟩ := gx_recv hlen ha
            rw [eAs] at hcat hM
            have hoka : ∀ v ∈ Value.ref a :: As, gx_ok h.length v := fun v hm => hs v (List.mem_of_mem_take (List.mem_reverse.mp (by rw [eAs]; exact hm)))
            have hMet := hM (.ref a :: As) (by rw [List.length_cons, hAl]) hcat (by rw [List.length_cons, hAl]; exact hmax.2) ad H.size
            have hst := gx_stack (sp := sp) (ad := ad) (st := st) (n := k + 1)
            rw [eAs] at hst
            refine gx_after (ret := ret) (len := 3) (vx_runV (As := As.map (gx_v sp ad)) (rest := (st.drop (k + 1)).map (gx_v sp ad)) ⟨hx, hb, hml, hown, hts⟩ hMet ⟨callB_of k hts hG hw rfl rfl (hts _ hini) (hts _ hlink) hd9 ⟨by show d' + 20 + 1 ≤ R.frames; omega, by show 8 + (nL' + 11) + (64 * d' + 2000) ≤ R.locals; omega⟩, hts _ hinst, hts _ hsel⟩ ⟨fun a9 U g mk q => by
        obtain ⟨q0, q1, qP, qK, qD, qG, qo⟩ := q
        exact ⟨q0, q1, qP, va_K.moved (u := U) (U := U.calling g mk a9) (Vm.Alike.refl U.vm) qK, qD, hGo.1 _ U (U.calling g mk a9) _ (State.WarmedH.refl U) qG, qo⟩, va_recv hK0 hh.1 hc (gx_w_at hcell), fun U hU hW => ⟨rfl, by rw [hU], by rw [hU]; exact hh.1, va_K.moved hW.alike hK0, hh.2.1.weaken (fun _ _ _ _ => trivial), gx_G_in hGo hA hh hG0 hU hW, hh.2.2.2.1, hoka⟩⟩
              rfl (by rw [List.length_map]; exact hAl) hv.1 (by rw [hst]; simp [gx_v]) (by rw [gx_catsum]; show 2 * 0 + _ ≤ 8; omega) hd ⟨by omega, by omega⟩) hA hh hv (fun v hm => hs v (List.mem_of_mem_drop hm)) hc1 hc2 hk1 hk2 hK (fun E h' ad' H' locs' q ce hQ r1 r2 g1 g2 g3 => by
      obtain ⟨hP', hD', hS', hok', hn', had'⟩ := r1
      exact vx_out (fun x hx9 => (hex x hx9).elim) hlk g1 g2 g3 (fun t ht _ => ⟨h', ad', hQ, ⟨by rw [ht]; exact hP', hD', hok', hn', had'⟩, hS'.F ht⟩) hS'.2.2 (Nat.sub_le _ _) (Nat.sub_le _ _))
    | _ => simp only [gi_vcall, ha] at hT
theorem gs_callS (ez : zs m' = (cl, tyl, G, Ts', cc', my', nL', ret')) (hGo : gx_Gok G) (hG : GoodIn Ts Ts') (hw : Ts' = Cond.code my' cc' nL' ret' :: Ts'') (hini : Cond.initialized my'.cls ∈ Ts) (hlink : Cond.methodLink my.cls idx my' ∈ Ts) (hstat : Cond.static my' ∈ Ts)
    (hd9 : my'.cls ≠ "java/lang/invoke/MethodHandle" ∧ my'.cls ≠ "java/lang/invoke/VarHandle" ∧ (parseMethodDescriptor my'.desc).map (fun d => d.parameters.length) = some k) (hmax : nL' ≤ 45 ∧ k ≤ nL') (hd : decode cc pc = .ok (.invokestatic idx, 3)) : gx_Sn l zs (cl, tyl, G, Ts, cc, my, nL, ret) pc (gi_call m' k nL' (pc + 3)) := by
  rintro ⟨p, l', e, R, s, m, args, below, meth, c⟩ ⟨D, dT, sp, A, n0, ad0⟩ d lv st h bc bs K Q C e1 ⟨⟨hx, hb, hml, hown, hnm0, hret⟩, hts, hK0, hA, hlk, hG0⟩ hex hf hlo hT hK hC ad H locs ls hh hv hs hc1 hc2
  have e1 : l' = l := e1
  subst e1
  have hf : R.frames = d + 20 := hf
  have hlo : R.locals = 64 * d + 2000 := hlo
  obtain ⟨⟨hsum, hcat, hlen⟩, kc, ks, ⟨hk1, hk2⟩, hcall⟩ := gx_call_inv hT
  obtain ⟨d', e2, hM⟩ := hC m' _ _ _ _ _ hcall
  rw [ez] at hM
  have hoka : ∀ v ∈ (st.take k).reverse, gx_ok h.length v := fun v hm => hs v (List.mem_of_mem_take (List.mem_reverse.mp hm))
  have hMet := hM (st.take k).reverse (by rw [hlen]) hcat (by rw [hlen]; exact hmax.2) ad H.size
  refine gx_after (ret := ret) (len := 3) (vx_runS (As := (st.take k).reverse.map (gx_v sp ad)) (rest := (st.drop k).map (gx_v sp ad)) ⟨hx, hb, hml, hown, hts⟩ hMet ⟨callB_of k hts hG hw rfl rfl (hts _ hini) (hts _ hlink) hd9 ⟨by show d' + 20 + 1 ≤ R.frames; omega, by show 8 + (nL' + 11) + (64 * d' + 2000) ≤ R.locals; omega⟩, hts _ hstat⟩ ⟨fun a9 U g mk q => by
        obtain ⟨q0, q1, qP, qK, qD, qG, qo⟩ := q
        exact ⟨q0, q1, qP, va_K.moved (u := U) (U := U.calling g mk a9) (Vm.Alike.refl U.vm) qK, qD, hGo.1 _ U (U.calling g mk a9) _ (State.WarmedH.refl U) qG, qo⟩, fun U hU hW => ⟨rfl, by rw [hU], by rw [hU]; exact hh.1, va_K.moved hW.alike hK0, hh.2.1.weaken (fun _ _ _ _ => trivial), gx_G_in hGo hA hh hG0 hU hW, hh.2.2.2.1, hoka⟩⟩
    rfl (by rw [List.length_map]; exact hlen) hv.1 gx_stack (by rw [gx_catsum]; show 2 * 0 + _ ≤ 8; omega) hd ⟨by omega, by omega⟩) hA hh hv (fun v hm => hs v (List.mem_of_mem_drop hm)) hc1 hc2 hk1 hk2 hK (fun E h' ad' H' locs' q ce hQ r1 r2 g1 g2 g3 => by
      obtain ⟨hP', hD', hS', hok', hn', had'⟩ := r1
      exact vx_out (fun x hx9 => (hex x hx9).elim) hlk g1 g2 g3 (fun t ht _ => ⟨h', ad', hQ, ⟨by rw [ht]; exact hP', hD', hok', hn', had'⟩, hS'.F ht⟩) hS'.2.2 (Nat.sub_le _ _) (Nat.sub_le _ _))
theorem gs_callI (ez : zs m' = (cl, tyl, G, Ts', cc', my', nL', none)) (hGo : gx_Gok G) (hG : GoodIn Ts Ts') (hw : Ts' = Cond.code my' cc' nL' none :: Ts'') (hini : Cond.initialized my'.cls ∈ Ts) (hlink : Cond.methodLink my.cls idx my' ∈ Ts) (hinst : Cond.instanceMethod my' ∈ Ts) (hnm : my'.name = "<init>")
    (hd9 : my'.cls ≠ "java/lang/invoke/MethodHandle" ∧ my'.cls ≠ "java/lang/invoke/VarHandle" ∧ (parseMethodDescriptor my'.desc).map (fun d => d.parameters.length) = some k) (hmax : nL' ≤ 45 ∧ k + 1 ≤ nL') (hd : decode cc pc = .ok (.invokespecial idx, 3)) : gx_Sn l zs (cl, tyl, G, Ts, cc, my, nL, ret) pc (gi_scall m' k nL' (pc + 3)) := by
  rintro ⟨p, l', e, R, s, m, args, below, meth, c⟩ ⟨D, dT, sp, A, n0, ad0⟩ d lv st h bc bs K Q C e1 ⟨⟨hx, hb, hml, hown, hnm0, hret⟩, hts, hK0, hA, hlk, hG0⟩ hex hf hlo hT hK hC ad H locs ls hh hv hs hc1 hc2
  have e1 : l' = l := e1
  subst e1
  have hf : R.frames = d + 20 := hf
  have hlo : R.locals = 64 * d + 2000 := hlo
  cases ha : st[k]? with
  | none => simp only [gi_scall, ha] at hT
  | some v0 =>
    cases v0 with
    | ref a =>
      simp only [gi_scall, ha] at hT
      obtain ⟨⟨hsum, hcat, hlen⟩, kc, ks, ⟨hk1, hk2⟩, hcall⟩ := gx_call_inv hT
      obtain ⟨d', e2, hM⟩ := hC m' _ _ _ _ _ hcall
      rw [ez] at hM
      obtain ⟨As, eAs, hAl⟩ := gx_recv hlen ha
      rw [eAs] at hcat hM
      have hoka : ∀ v ∈ Value.ref a :: As, gx_ok h.length v := fun v hm => hs v (List.mem_of_mem_take (List.mem_reverse.mp (by rw [eAs]; exact hm)))
      have hMet := hM (.ref a :: As) (by rw [List.length_cons, hAl]) hcat (by rw [List.length_cons, hAl]; exact hmax.2) ad H.size
      have hst := gx_stack (sp := sp) (ad := ad) (st := st) (n := k + 1)
      rw [eAs] at hst
      have hMet := gx_plain hMet (fun E st t hX => by obtain ⟨h9, ad9, hX, -⟩ := hX; exact hX)
      have hr : va_Run p l' e R s m args below meth c H locs (R.cells - bc) (R.slots - bs) kc ks (F0 m pc ls (st.map (gx_v sp ad))) ((st.drop (k + 1)).map (gx_v sp ad)) (gx_Q cl (D, dT, sp, va_A (gx_w dT sp ad h) H.size, h.length, ad) (gx_k0 lv (st.drop (k + 1)) (pc + 3) (bc - kc) (bs - ks) K) (Value.ref (ad a) :: As.map (gx_v sp ad)).toArray) (va_A (gx_w dT sp ad h) H.size) :=
        va_runI ⟨hx, hb, hml, hown, hts⟩ hMet ⟨callB_of k hts hG hw rfl rfl (hts _ hini) (hts _ hlink) hd9 ⟨by show d' + 20 + 1 ≤ R.frames; omega, by show 8 + (nL' + 11) + (64 * d' + 2000) ≤ R.locals; omega⟩, hnm, hts _ hinst⟩ ⟨fun a9 U g mk q => by
        obtain ⟨q0, q1, qP, qK, qD, qG, qo⟩ := q
        exact ⟨q0, q1, qP, va_K.moved (u := U) (U := U.calling g mk a9) (Vm.Alike.refl U.vm) qK, qD, hGo.1 _ U (U.calling g mk a9) _ (State.WarmedH.refl U) qG, qo⟩, fun U hU hW => ⟨rfl, by rw [hU], by rw [hU]; exact hh.1, va_K.moved hW.alike hK0, hh.2.1.weaken (fun _ _ _ _ => trivial), gx_G_in hGo hA hh hG0 hU hW, hh.2.2.2.1, hoka⟩⟩
          rfl (by rw [List.length_map]; exact hAl) hv.1 (by rw [hst]; simp [gx_v]) (by rw [gx_catsum]; show 2 * 0 + _ ≤ 8; omega) hd ⟨by omega, by omega⟩
      refine gx_after (ret := ret) (len := 3) (Q := Q) (st := st.drop (k + 1)) (a := (Value.ref (ad a) :: As.map (gx_v sp ad)).toArray) (fun T hT9 X => ?_) hA hh hv (fun v hm => hs v (List.mem_of_mem_drop hm)) hc1 hc2 hk1 hk2 hK (fun E h' ad' H' locs' q ce hQ r1 r2 g1 g2 g3 => by
      obtain ⟨hP', hD', hS', hok', hn', had'⟩ := r1
      exact vx_out (fun x hx9 => (hex x hx9).elim) hlk g1 g2 g3 (fun t ht _ => ⟨h', ad', hQ, ⟨by rw [ht]; exact hP', hD', hok', hn', had'⟩, hS'.F ht⟩) hS'.2.2 (Nat.sub_le _ _) (Nat.sub_le _ _))
      obtain ⟨v, st₀, t, T', L, h0, X', hL, e3, e4, hq, go⟩ := hr T hT9 X
      exact Or.inl ⟨v, st₀, t, T', L, h0, X', hL, e3, e4, gx_Q.mono gx_k0.to hq, go⟩
    | _ => simp only [gi_scall, ha] at hT
theorem gs_obj (hlink : Cond.methodLink my.cls idx Lib.objectInit ∈ Ts) (hinst : Cond.instanceMethod Lib.objectInit ∈ Ts) (hcode : Cond.code Lib.objectInit ⟨#[0xb1]⟩ 1 none ∈ Ts) (hd : decode cc pc = .ok (.invokespecial idx, 3)) : gx_Sn l zs (cl, tyl, G, Ts, cc, my, nL, ret) pc (gi_obj (pc + 3)) := by
  rintro ⟨p, l', e, R, s, m, args, below, meth, c⟩ ⟨D, dT, sp, A, n0, ad0⟩ d lv st h bc bs K Q C e1 ⟨⟨hx, hb, hml, hown, hnm0, hret⟩, hts, hK0, hA, hlk, hG0⟩ hex hf hlo hT hK hC ad H locs ls hh hv hs hc1 hc2
  have e1 : l' = l := e1
  subst e1
  have hf : R.frames = d + 20 := hf
  have hlo : R.locals = 64 * d + 2000 := hlo
  rcases st with _ | ⟨v, st⟩
  · exact False.elim hT
  cases v with
  | ref a =>
    cases hb1 : Nat.ble (st.map Value.category).sum 8 with
    | false => simp only [gi_obj, hb1] at hT
    | true =>
      simp only [gi_obj, hb1] at hT
      have hsum := Nat.le_of_ble_eq_true hb1
      exact W.objInit hx hb hown (hts _ hlink) (hts _ hinst) (hts _ hcode) rfl (hv.1.trans hml.symm) (rest := st.map (gx_v sp ad)) rfl hd (by omega) (by rw [gx_catsum]; show 2 * 0 + _ + 12 ≤ R.locals; omega) (hK _ hT ad H locs ls hh hv (fun v hm => hs v (List.mem_cons_of_mem _ hm)) hc1 hc2)
  | _ => exact False.elim hT
theorem gs_puti {ci k idx N : Nat} {Cn : String} {T : u_T} (hc : cl[ci]? = some (Cn, T, N)) (hin : ∀ w ∈ u_ws Cn T N, w ∈ Ts) (ty0 : Nat → FieldType) (hty : ∀ k, k < N → parseFieldDescriptor (T k).2.2.1 = some (ty0 k)) (hnm : ∀ a, a < N → ∀ b, b < N → a ≠ b → (T a).2.1 ≠ (T b).2.1) (hk : k < N) (hty1 : parseFieldDescriptor (T k).2.2.1 = some .int) (hlink : Cond.fieldLink my.cls idx (T k).1 (T k).2.1 (T k).2.2.1 ∈ Ts) (hfin : (T k).2.2.2 = false) (hd : decode cc pc = .ok (.putfield idx, 3)) : gx_s1 (cl, tyl, G, Ts, cc, my, nL, ret) pc (gi_puti ci k (pc + 3)) :=
  fun x y Fin lv st h bc bs K Q C hC hT hK => gs_put hc hin ty0 hty hnm hk hty1 hlink hfin hd x y Fin lv st h bc bs K Q C hC hT.to hK
theorem gs_ireti (hd : decode cc pc = .ok (.ireturn, 1)) : gx_sR (cl, tyl, G, Ts, cc, my, nL, some .int) pc gi_ireti :=
  fun x y lv st h bc bs K Q C hC hT => gs_iret hd x y lv st h bc bs K Q C hC hT.to
end GXV
end
section
/-! The names of the classes that have objects; the words; the model's methods. Written by wip/tools/gen_model.py. -/
def gm_WS : List Cond := lw_tbl.filter goodWord
theorem gm_m {w : Cond} (i : Nat) (h : tables_1[i]? = some w) (hg : goodWord w = true) : w ∈ gm_WS := List.mem_filter.mpr ⟨List.mem_append_right _ (List.mem_of_getElem? h), hg⟩
theorem gm_ms {w : Cond} (i : Nat) (h : (k2_sels lw_privs)[i]? = some w) (hg : goodWord w = true) : w ∈ gm_WS := List.mem_filter.mpr ⟨List.mem_append_left _ (List.mem_of_getElem? h), hg⟩
theorem gm_ws_good : gm_WS.all goodWord = true := List.all_eq_true.mpr (fun _ h => (List.mem_filter.mp h).2)
theorem gm_good {x y : Cond} (hx : y ∈ gm_WS) : GoodIn (x :: gm_WS) (y :: gm_WS) := fun w h => by
  rcases List.mem_cons.mp h with e | e
  · rw [e]; exact ⟨List.mem_cons_of_mem _ hx, good_of_word (List.mem_filter.mp hx).2⟩
  · exact ⟨List.mem_cons_of_mem _ e, good_of_word (List.mem_filter.mp e).2⟩
def gm_R0 : String := "GrammarMachine"
def gm_T0 : u_T := fun k => match k with
  | 0 => ("GrammarMachine", "lineRow", "[C", true)
  | 1 => ("GrammarMachine", "textRow", "[C", true)
  | 2 => ("GrammarMachine", "reader", "LGrammarMachine$Reader;", true)
  | 3 => ("GrammarMachine", "grammar", "LGrammarMachine$Grammar;", true)
  | 4 => ("GrammarMachine", "chart", "LGrammarMachine$Chart;", true)
  | 5 => ("GrammarMachine", "lineLength", "I", false)
  | 6 => ("GrammarMachine", "textLength", "I", false)
  | _ => ("GrammarMachine", "latestRow", "I", false)
def gm_t0 : Nat → FieldType := fun k => match k with
  | 0 => .array (.char)
  | 1 => .array (.char)
  | 2 => .object "GrammarMachine$Reader"
  | 3 => .object "GrammarMachine$Grammar"
  | 4 => .object "GrammarMachine$Chart"
  | 5 => .int
  | 6 => .int
  | _ => .int
theorem gm_nm0 : ∀ a, a < 8 → ∀ b, b < 8 → a ≠ b → (gm_T0 a).2.1 ≠ (gm_T0 b).2.1 := by decide +kernel
theorem gm_ty0 : ∀ k, k < 8 → parseFieldDescriptor (gm_T0 k).2.2.1 = some (gm_t0 k) := by decide +kernel
def gm_R1 : String := "GrammarMachine$Reader"
def gm_T1 : u_T := fun k => match k with
  | 0 => ("GrammarMachine$Reader", "row", "[C", true)
  | 1 => ("GrammarMachine$Reader", "length", "I", false)
  | _ => ("GrammarMachine$Reader", "at", "I", false)
def gm_t1 : Nat → FieldType := fun k => match k with
  | 0 => .array (.char)
  | 1 => .int
  | _ => .int
theorem gm_nm1 : ∀ a, a < 3 → ∀ b, b < 3 → a ≠ b → (gm_T1 a).2.1 ≠ (gm_T1 b).2.1 := by decide +kernel
theorem gm_ty1 : ∀ k, k < 3 → parseFieldDescriptor (gm_T1 k).2.2.1 = some (gm_t1 k) := by decide +kernel
def gm_R2 : String := "GrammarMachine$Grammar"
def gm_T2 : u_T := fun k => match k with
  | 0 => ("GrammarMachine$Grammar", "patterns", "[LGrammarMachine$Pattern;", true)
  | 1 => ("GrammarMachine$Grammar", "lines", "[C", true)
  | 2 => ("GrammarMachine$Grammar", "arranged", "[I", true)
  | _ => ("GrammarMachine$Grammar", "arrangedCount", "I", false)
def gm_t2 : Nat → FieldType := fun k => match k with
  | 0 => .array (.object "GrammarMachine$Pattern")
  | 1 => .array (.char)
  | 2 => .array (.int)
  | _ => .int
theorem gm_nm2 : ∀ a, a < 4 → ∀ b, b < 4 → a ≠ b → (gm_T2 a).2.1 ≠ (gm_T2 b).2.1 := by decide +kernel
theorem gm_ty2 : ∀ k, k < 4 → parseFieldDescriptor (gm_T2 k).2.2.1 = some (gm_t2 k) := by decide +kernel
def gm_R3 : String := "GrammarMachine$Chart"
def gm_T3 : u_T := fun k => match k with
  | 0 => ("GrammarMachine$Chart", "characters", "[C", true)
  | 1 => ("GrammarMachine$Chart", "length", "I", false)
  | 2 => ("GrammarMachine$Chart", "row", "I", false)
  | 3 => ("GrammarMachine$Chart", "ends", "[I", true)
  | 4 => ("GrammarMachine$Chart", "farthestFailures", "[I", true)
  | 5 => ("GrammarMachine$Chart", "reached", "[J", true)
  | 6 => ("GrammarMachine$Chart", "kept", "[I", true)
  | 7 => ("GrammarMachine$Chart", "captureBegins", "[I", true)
  | _ => ("GrammarMachine$Chart", "captureEnds", "[I", true)
def gm_t3 : Nat → FieldType := fun k => match k with
  | 0 => .array (.char)
  | 1 => .int
  | 2 => .int
  | 3 => .array (.int)
  | 4 => .array (.int)
  | 5 => .array (.long)
  | 6 => .array (.int)
  | 7 => .array (.int)
  | _ => .array (.int)
theorem gm_nm3 : ∀ a, a < 9 → ∀ b, b < 9 → a ≠ b → (gm_T3 a).2.1 ≠ (gm_T3 b).2.1 := by decide +kernel
theorem gm_ty3 : ∀ k, k < 9 → parseFieldDescriptor (gm_T3 k).2.2.1 = some (gm_t3 k) := by decide +kernel
def gm_R4 : String := "GrammarMachineModel"
def gm_T4 : u_T := fun k => match k with
  | 0 => ("GrammarMachineModel", "thrown", "I", false)
  | 1 => ("GrammarMachineModel", "line", "[I", true)
  | 2 => ("GrammarMachineModel", "typed", "I", false)
  | 3 => ("GrammarMachineModel", "text", "[I", true)
  | 4 => ("GrammarMachineModel", "length", "I", false)
  | 5 => ("GrammarMachineModel", "defined", "[Z", true)
  | 6 => ("GrammarMachineModel", "lines", "[I", true)
  | 7 => ("GrammarMachineModel", "lineLength", "[I", true)
  | 8 => ("GrammarMachineModel", "many", "[I", true)
  | 9 => ("GrammarMachineModel", "kind", "[I", true)
  | 10 => ("GrammarMachineModel", "within", "[I", true)
  | 11 => ("GrammarMachineModel", "most", "[I", true)
  | 12 => ("GrammarMachineModel", "next", "[I", true)
  | 13 => ("GrammarMachineModel", "last", "[I", true)
  | 14 => ("GrammarMachineModel", "empty", "[Z", true)
  | 15 => ("GrammarMachineModel", "starts", "[I", true)
  | 16 => ("GrammarMachineModel", "uses", "[I", true)
  | 17 => ("GrammarMachineModel", "at", "I", false)
  | 18 => ("GrammarMachineModel", "bad", "Z", false)
  | 19 => ("GrammarMachineModel", "depth", "I", false)
  | 20 => ("GrammarMachineModel", "choices", "[I", true)
  | 21 => ("GrammarMachineModel", "sequences", "[I", true)
  | 22 => ("GrammarMachineModel", "braces", "[I", true)
  | 23 => ("GrammarMachineModel", "prefixFrom", "[I", true)
  | 24 => ("GrammarMachineModel", "prefixTo", "[I", true)
  | 25 => ("GrammarMachineModel", "ends", "[I", true)
  | 26 => ("GrammarMachineModel", "looked", "[Z", true)
  | 27 => ("GrammarMachineModel", "stack", "[I", true)
  | 28 => ("GrammarMachineModel", "top", "I", false)
  | 29 => ("GrammarMachineModel", "pairs", "[Z", true)
  | 30 => ("GrammarMachineModel", "kept", "I", false)
  | 31 => ("GrammarMachineModel", "begins", "[I", true)
  | 32 => ("GrammarMachineModel", "closes", "[I", true)
  | 33 => ("GrammarMachineModel", "far", "I", false)
  | _ => ("GrammarMachineModel", "tries", "I", false)
def gm_t4 : Nat → FieldType := fun k => match k with
  | 0 => .int
  | 1 => .array (.int)
  | 2 => .int
  | 3 => .array (.int)
  | 4 => .int
  | 5 => .array (.boolean)
  | 6 => .array (.int)
  | 7 => .array (.int)
  | 8 => .array (.int)
  | 9 => .array (.int)
  | 10 => .array (.int)
  | 11 => .array (.int)
  | 12 => .array (.int)
  | 13 => .array (.int)
  | 14 => .array (.boolean)
  | 15 => .array (.int)
  | 16 => .array (.int)
  | 17 => .int
  | 18 => .boolean
  | 19 => .int
  | 20 => .array (.int)
  | 21 => .array (.int)
  | 22 => .array (.int)
  | 23 => .array (.int)
  | 24 => .array (.int)
  | 25 => .array (.int)
  | 26 => .array (.boolean)
  | 27 => .array (.int)
  | 28 => .int
  | 29 => .array (.boolean)
  | 30 => .int
  | 31 => .array (.int)
  | 32 => .array (.int)
  | 33 => .int
  | _ => .int
theorem gm_nm4 : ∀ a, a < 35 → ∀ b, b < 35 → a ≠ b → (gm_T4 a).2.1 ≠ (gm_T4 b).2.1 := by decide +kernel
theorem gm_ty4 : ∀ k, k < 35 → parseFieldDescriptor (gm_T4 k).2.2.1 = some (gm_t4 k) := by decide +kernel
def gm_R5 : String := "GrammarMachine$Single"
def gm_T5 : u_T := fun k => match k with
  | 0 => ("GrammarMachine$Single", "low", "C", true)
  | _ => ("GrammarMachine$Single", "high", "C", true)
def gm_t5 : Nat → FieldType := fun k => match k with
  | 0 => .char
  | _ => .char
theorem gm_nm5 : ∀ a, a < 2 → ∀ b, b < 2 → a ≠ b → (gm_T5 a).2.1 ≠ (gm_T5 b).2.1 := by decide +kernel
theorem gm_ty5 : ∀ k, k < 2 → parseFieldDescriptor (gm_T5 k).2.2.1 = some (gm_t5 k) := by decide +kernel
def gm_R6 : String := "GrammarMachine$Name"
def gm_T6 : u_T := fun k => match k with
  | _ => ("GrammarMachine$Name", "rule", "I", true)
def gm_t6 : Nat → FieldType := fun k => match k with
  | _ => .int
theorem gm_nm6 : ∀ a, a < 1 → ∀ b, b < 1 → a ≠ b → (gm_T6 a).2.1 ≠ (gm_T6 b).2.1 := by decide +kernel
theorem gm_ty6 : ∀ k, k < 1 → parseFieldDescriptor (gm_T6 k).2.2.1 = some (gm_t6 k) := by decide +kernel
def gm_R7 : String := "GrammarMachine$Capture"
def gm_T7 : u_T := fun k => match k with
  | _ => ("GrammarMachine$Capture", "inside", "LGrammarMachine$Pattern;", true)
def gm_t7 : Nat → FieldType := fun k => match k with
  | _ => .object "GrammarMachine$Pattern"
theorem gm_nm7 : ∀ a, a < 1 → ∀ b, b < 1 → a ≠ b → (gm_T7 a).2.1 ≠ (gm_T7 b).2.1 := by decide +kernel
theorem gm_ty7 : ∀ k, k < 1 → parseFieldDescriptor (gm_T7 k).2.2.1 = some (gm_t7 k) := by decide +kernel
def gm_R8 : String := "GrammarMachine$Repeat"
def gm_T8 : u_T := fun k => match k with
  | 0 => ("GrammarMachine$Repeat", "part", "LGrammarMachine$Pattern;", true)
  | 1 => ("GrammarMachine$Repeat", "least", "I", true)
  | _ => ("GrammarMachine$Repeat", "most", "I", true)
def gm_t8 : Nat → FieldType := fun k => match k with
  | 0 => .object "GrammarMachine$Pattern"
  | 1 => .int
  | _ => .int
theorem gm_nm8 : ∀ a, a < 3 → ∀ b, b < 3 → a ≠ b → (gm_T8 a).2.1 ≠ (gm_T8 b).2.1 := by decide +kernel
theorem gm_ty8 : ∀ k, k < 3 → parseFieldDescriptor (gm_T8 k).2.2.1 = some (gm_t8 k) := by decide +kernel
def gm_R9 : String := "GrammarMachine$Look"
def gm_T9 : u_T := fun k => match k with
  | 0 => ("GrammarMachine$Look", "piece", "LGrammarMachine$Pattern;", true)
  | _ => ("GrammarMachine$Look", "wanted", "Z", true)
def gm_t9 : Nat → FieldType := fun k => match k with
  | 0 => .object "GrammarMachine$Pattern"
  | _ => .boolean
theorem gm_nm9 : ∀ a, a < 2 → ∀ b, b < 2 → a ≠ b → (gm_T9 a).2.1 ≠ (gm_T9 b).2.1 := by decide +kernel
theorem gm_ty9 : ∀ k, k < 2 → parseFieldDescriptor (gm_T9 k).2.2.1 = some (gm_t9 k) := by decide +kernel
def gm_R10 : String := "GrammarMachine$Sequence"
def gm_T10 : u_T := fun k => match k with
  | _ => ("GrammarMachine$Sequence", "items", "Ljava/util/List;", true)
def gm_t10 : Nat → FieldType := fun k => match k with
  | _ => .object "java/util/List"
theorem gm_nm10 : ∀ a, a < 1 → ∀ b, b < 1 → a ≠ b → (gm_T10 a).2.1 ≠ (gm_T10 b).2.1 := by decide +kernel
theorem gm_ty10 : ∀ k, k < 1 → parseFieldDescriptor (gm_T10 k).2.2.1 = some (gm_t10 k) := by decide +kernel
def gm_R11 : String := "GrammarMachine$Choice"
def gm_T11 : u_T := fun k => match k with
  | _ => ("GrammarMachine$Choice", "sequences", "Ljava/util/List;", true)
def gm_t11 : Nat → FieldType := fun k => match k with
  | _ => .object "java/util/List"
theorem gm_nm11 : ∀ a, a < 1 → ∀ b, b < 1 → a ≠ b → (gm_T11 a).2.1 ≠ (gm_T11 b).2.1 := by decide +kernel
theorem gm_ty11 : ∀ k, k < 1 → parseFieldDescriptor (gm_T11 k).2.2.1 = some (gm_t11 k) := by decide +kernel
def gm_R12 : String := "java/util/ArrayList"
def gm_T12 : u_T := fun k => match k with
  | 0 => ("java/util/ArrayList", "elementData", "[Ljava/lang/Object;", false)
  | 1 => ("java/util/ArrayList", "size", "I", false)
  | _ => ("java/util/AbstractList", "modCount", "I", false)
def gm_t12 : Nat → FieldType := fun k => match k with
  | 0 => .array (.object "java/lang/Object")
  | 1 => .int
  | _ => .int
theorem gm_nm12 : ∀ a, a < 3 → ∀ b, b < 3 → a ≠ b → (gm_T12 a).2.1 ≠ (gm_T12 b).2.1 := by decide +kernel
theorem gm_ty12 : ∀ k, k < 3 → parseFieldDescriptor (gm_T12 k).2.2.1 = some (gm_t12 k) := by decide +kernel
abbrev gm_cl : List vw_C := [(gm_R0, gm_T0, 8), (gm_R1, gm_T1, 3), (gm_R2, gm_T2, 4), (gm_R3, gm_T3, 9), (gm_R4, gm_T4, 35), (gm_R5, gm_T5, 2), (gm_R6, gm_T6, 1), (gm_R7, gm_T7, 1), (gm_R8, gm_T8, 3), (gm_R9, gm_T9, 2), (gm_R10, gm_T10, 1), (gm_R11, gm_T11, 1), (gm_R12, gm_T12, 3)]
/-- the arrays by their tags: int, char, boolean, long, patterns, objects -/
abbrev gm_tyl : List FieldType := [.int, .char, .boolean, .long, .object "GrammarMachine$Pattern", .object "java/lang/Object"]
theorem gm_lay {C : String} {T : u_T} {N : Nat} (ix : List Nat) (h : ∀ k, k < N → tables_1[ix.getD k 0]? = some (u_lay C T k) ∧ goodWord (u_lay C T k) = true) : ∀ w ∈ u_ws C T N, w ∈ gm_WS := fun w hw => by
  obtain ⟨k, hk, rfl⟩ := List.mem_map.mp hw
  exact gm_m _ (h k (List.mem_range.mp hk)).1 (h k (List.mem_range.mp hk)).2
theorem gm_in4 : ∀ w ∈ u_ws gm_R4 gm_T4 35, w ∈ gm_WS := gm_lay [896, 898, 900, 902, 904, 906, 908, 910, 912, 914, 916, 918, 920, 922, 924, 926, 928, 930, 932, 934, 936, 938, 940, 942, 944, 946, 948, 950, 952, 954, 956, 958, 960, 962, 964] (by decide +kernel)
theorem gm_f {x : Cond} (w : Cond) (h : w ∈ gm_WS) : w ∈ x :: gm_WS := List.mem_cons_of_mem _ h
theorem gm_in4c {x : Cond} : ∀ w ∈ u_ws gm_R4 gm_T4 35, w ∈ x :: gm_WS := fun w h => List.mem_cons_of_mem _ (gm_in4 w h)
def gm_y0 : MethodName := ⟨"GrammarMachineModel", "<init>", "()V"⟩
abbrev gm_c0 : ByteArray := prog_14_method_1_code
theorem gm_k0 : Cond.code gm_y0 gm_c0 1 none ∈ gm_WS := gm_m 859 (by decide +kernel) (by decide +kernel)
def gm_y1 : MethodName := ⟨"GrammarMachineModel", "thrown", "()I"⟩
abbrev gm_c1 : ByteArray := prog_14_method_2_code
theorem gm_k1 : Cond.code gm_y1 gm_c1 1 (some .int) ∈ gm_WS := gm_m 971 (by decide +kernel) (by decide +kernel)
def gm_y2 : MethodName := ⟨"GrammarMachineModel", "isRule", "(I)Z"⟩
abbrev gm_c2 : ByteArray := prog_14_method_3_code
theorem gm_k2 : Cond.code gm_y2 gm_c2 1 (some .boolean) ∈ gm_WS := gm_m 1044 (by decide +kernel) (by decide +kernel)
def gm_y3 : MethodName := ⟨"GrammarMachineModel", "charactersOf", "(I)I"⟩
abbrev gm_c3 : ByteArray := prog_14_method_4_code
theorem gm_k3 : Cond.code gm_y3 gm_c3 3 (some .int) ∈ gm_WS := gm_m 978 (by decide +kernel) (by decide +kernel)
def gm_y4 : MethodName := ⟨"GrammarMachineModel", "type", "(I)Z"⟩
abbrev gm_c4 : ByteArray := prog_14_method_5_code
theorem gm_k4 : Cond.code gm_y4 gm_c4 4 (some .boolean) ∈ gm_WS := gm_m 975 (by decide +kernel) (by decide +kernel)
def gm_y5 : MethodName := ⟨"GrammarMachineModel", "text", "(I)Z"⟩
abbrev gm_c5 : ByteArray := prog_14_method_6_code
theorem gm_k5 : Cond.code gm_y5 gm_c5 4 (some .boolean) ∈ gm_WS := gm_m 982 (by decide +kernel) (by decide +kernel)
def gm_y6 : MethodName := ⟨"GrammarMachineModel", "clear", "()I"⟩
abbrev gm_c6 : ByteArray := prog_14_method_7_code
theorem gm_k6 : Cond.code gm_y6 gm_c6 2 (some .int) ∈ gm_WS := gm_m 986 (by decide +kernel) (by decide +kernel)
def gm_y7 : MethodName := ⟨"GrammarMachineModel", "look", "(I)I"⟩
abbrev gm_c7 : ByteArray := prog_14_method_8_code
theorem gm_k7 : Cond.code gm_y7 gm_c7 2 (some .int) ∈ gm_WS := gm_m 998 (by decide +kernel) (by decide +kernel)
def gm_y8 : MethodName := ⟨"GrammarMachineModel", "isSmall", "(I)Z"⟩
abbrev gm_c8 : ByteArray := prog_14_method_9_code
theorem gm_k8 : Cond.code gm_y8 gm_c8 1 (some .boolean) ∈ gm_WS := gm_m 1025 (by decide +kernel) (by decide +kernel)
def gm_y9 : MethodName := ⟨"GrammarMachineModel", "make", "(II)I"⟩
abbrev gm_c9 : ByteArray := prog_14_method_10_code
theorem gm_k9 : Cond.code gm_y9 gm_c9 4 (some .int) ∈ gm_WS := gm_m 1006 (by decide +kernel) (by decide +kernel)
def gm_y10 : MethodName := ⟨"GrammarMachineModel", "append", "(II)V"⟩
abbrev gm_c10 : ByteArray := prog_14_method_11_code
theorem gm_k10 : Cond.code gm_y10 gm_c10 3 none ∈ gm_WS := gm_m 1014 (by decide +kernel) (by decide +kernel)
def gm_y11 : MethodName := ⟨"GrammarMachineModel", "newSequence", "()V"⟩
abbrev gm_c11 : ByteArray := prog_14_method_12_code
theorem gm_k11 : Cond.code gm_y11 gm_c11 2 none ∈ gm_WS := gm_m 1010 (by decide +kernel) (by decide +kernel)
def gm_y12 : MethodName := ⟨"GrammarMachineModel", "goesIn", "(I)V"⟩
abbrev gm_c12 : ByteArray := prog_14_method_13_code
theorem gm_k12 : Cond.code gm_y12 gm_c12 2 none ∈ gm_WS := gm_m 1002 (by decide +kernel) (by decide +kernel)
def gm_y13 : MethodName := ⟨"GrammarMachineModel", "character", "(II)I"⟩
abbrev gm_c13 : ByteArray := prog_14_method_14_code
theorem gm_k13 : Cond.code gm_y13 gm_c13 4 (some .int) ∈ gm_WS := gm_m 1029 (by decide +kernel) (by decide +kernel)
def gm_y14 : MethodName := ⟨"GrammarMachineModel", "atom", "()I"⟩
abbrev gm_c14 : ByteArray := prog_14_method_15_code
theorem gm_k14 : Cond.code gm_y14 gm_c14 3 (some .int) ∈ gm_WS := gm_m 1022 (by decide +kernel) (by decide +kernel)
def gm_y15 : MethodName := ⟨"GrammarMachineModel", "take", "(I)V"⟩
abbrev gm_c15 : ByteArray := prog_14_method_16_code
theorem gm_k15 : Cond.code gm_y15 gm_c15 5 none ∈ gm_WS := gm_m 1033 (by decide +kernel) (by decide +kernel)
def gm_y16 : MethodName := ⟨"GrammarMachineModel", "closeAll", "()V"⟩
abbrev gm_c16 : ByteArray := prog_14_method_17_code
theorem gm_k16 : Cond.code gm_y16 gm_c16 2 none ∈ gm_WS := gm_m 1037 (by decide +kernel) (by decide +kernel)
def gm_y17 : MethodName := ⟨"GrammarMachineModel", "readItem", "()V"⟩
abbrev gm_c17 : ByteArray := prog_14_method_18_code
theorem gm_k17 : Cond.code gm_y17 gm_c17 4 none ∈ gm_WS := gm_m 1018 (by decide +kernel) (by decide +kernel)
def gm_y18 : MethodName := ⟨"GrammarMachineModel", "read", "()Z"⟩
abbrev gm_c18 : ByteArray := prog_14_method_19_code
theorem gm_k18 : Cond.code gm_y18 gm_c18 1 (some .boolean) ∈ gm_WS := gm_m 994 (by decide +kernel) (by decide +kernel)
def gm_y19 : MethodName := ⟨"GrammarMachineModel", "define", "()I"⟩
abbrev gm_c19 : ByteArray := prog_14_method_20_code
theorem gm_k19 : Cond.code gm_y19 gm_c19 5 (some .int) ∈ gm_WS := gm_m 990 (by decide +kernel) (by decide +kernel)
def gm_y20 : MethodName := ⟨"GrammarMachineModel", "drop", "(I)Z"⟩
abbrev gm_c20 : ByteArray := prog_14_method_21_code
theorem gm_k20 : Cond.code gm_y20 gm_c20 2 (some .boolean) ∈ gm_WS := gm_m 1041 (by decide +kernel) (by decide +kernel)
def gm_y21 : MethodName := ⟨"GrammarMachineModel", "shown", "(II)C"⟩
abbrev gm_c21 : ByteArray := prog_14_method_22_code
theorem gm_k21 : Cond.code gm_y21 gm_c21 3 (some .char) ∈ gm_WS := gm_m 1048 (by decide +kernel) (by decide +kernel)
def gm_y22 : MethodName := ⟨"GrammarMachineModel", "isNode", "(I)Z"⟩
abbrev gm_c22 : ByteArray := prog_14_method_23_code
theorem gm_k22 : Cond.code gm_y22 gm_c22 2 (some .boolean) ∈ gm_WS := gm_m 1064 (by decide +kernel) (by decide +kernel)
def gm_y23 : MethodName := ⟨"GrammarMachineModel", "emptyNow", "(I)Z"⟩
abbrev gm_c23 : ByteArray := prog_14_method_24_code
theorem gm_k23 : Cond.code gm_y23 gm_c23 5 (some .boolean) ∈ gm_WS := gm_m 1068 (by decide +kernel) (by decide +kernel)
def gm_y24 : MethodName := ⟨"GrammarMachineModel", "startsNow", "(I)I"⟩
abbrev gm_c24 : ByteArray := prog_14_method_25_code
theorem gm_k24 : Cond.code gm_y24 gm_c24 6 (some .int) ∈ gm_WS := gm_m 1072 (by decide +kernel) (by decide +kernel)
def gm_y25 : MethodName := ⟨"GrammarMachineModel", "work", "()V"⟩
abbrev gm_c25 : ByteArray := prog_14_method_26_code
theorem gm_k25 : Cond.code gm_y25 gm_c25 5 none ∈ gm_WS := gm_m 1060 (by decide +kernel) (by decide +kernel)
def gm_y26 : MethodName := ⟨"GrammarMachineModel", "reached", "(II)I"⟩
abbrev gm_c26 : ByteArray := prog_14_method_27_code
theorem gm_k26 : Cond.code gm_y26 gm_c26 6 (some .int) ∈ gm_WS := gm_m 1076 (by decide +kernel) (by decide +kernel)
def gm_y27 : MethodName := ⟨"GrammarMachineModel", "checked", "(I)I"⟩
abbrev gm_c27 : ByteArray := prog_14_method_28_code
theorem gm_k27 : Cond.code gm_y27 gm_c27 8 (some .int) ∈ gm_WS := gm_m 1056 (by decide +kernel) (by decide +kernel)
def gm_y28 : MethodName := ⟨"GrammarMachineModel", "check", "(I)I"⟩
abbrev gm_c28 : ByteArray := prog_14_method_29_code
theorem gm_k28 : Cond.code gm_y28 gm_c28 2 (some .int) ∈ gm_WS := gm_m 1052 (by decide +kernel) (by decide +kernel)
def gm_y29 : MethodName := ⟨"GrammarMachineModel", "roundFrom", "(II)I"⟩
abbrev gm_c29 : ByteArray := prog_14_method_30_code
theorem gm_k29 : Cond.code gm_y29 gm_c29 5 (some .int) ∈ gm_WS := gm_m 1100 (by decide +kernel) (by decide +kernel)
def gm_y30 : MethodName := ⟨"GrammarMachineModel", "sequenceFrom", "(II)I"⟩
abbrev gm_c30 : ByteArray := prog_14_method_31_code
theorem gm_k30 : Cond.code gm_y30 gm_c30 5 (some .int) ∈ gm_WS := gm_m 1092 (by decide +kernel) (by decide +kernel)
def gm_y31 : MethodName := ⟨"GrammarMachineModel", "choiceFrom", "(II)I"⟩
abbrev gm_c31 : ByteArray := prog_14_method_32_code
theorem gm_k31 : Cond.code gm_y31 gm_c31 5 (some .int) ∈ gm_WS := gm_m 1096 (by decide +kernel) (by decide +kernel)
def gm_y32 : MethodName := ⟨"GrammarMachineModel", "endNow", "(II)I"⟩
abbrev gm_c32 : ByteArray := prog_14_method_33_code
theorem gm_k32 : Cond.code gm_y32 gm_c32 5 (some .int) ∈ gm_WS := gm_m 1088 (by decide +kernel) (by decide +kernel)
def gm_y33 : MethodName := ⟨"GrammarMachineModel", "findEnds", "()V"⟩
abbrev gm_c33 : ByteArray := prog_14_method_34_code
theorem gm_k33 : Cond.code gm_y33 gm_c33 4 none ∈ gm_WS := gm_m 1084 (by decide +kernel) (by decide +kernel)
def gm_y34 : MethodName := ⟨"GrammarMachineModel", "lookAt", "(II)V"⟩
abbrev gm_c34 : ByteArray := prog_14_method_35_code
theorem gm_k34 : Cond.code gm_y34 gm_c34 3 none ∈ gm_WS := gm_m 1116 (by decide +kernel) (by decide +kernel)
def gm_y35 : MethodName := ⟨"GrammarMachineModel", "rule", "(II)V"⟩
abbrev gm_c35 : ByteArray := prog_14_method_36_code
theorem gm_k35 : Cond.code gm_y35 gm_c35 3 none ∈ gm_WS := gm_m 1112 (by decide +kernel) (by decide +kernel)
def gm_y36 : MethodName := ⟨"GrammarMachineModel", "lookWithin", "(II)V"⟩
abbrev gm_c36 : ByteArray := prog_14_method_37_code
theorem gm_k36 : Cond.code gm_y36 gm_c36 6 none ∈ gm_WS := gm_m 1120 (by decide +kernel) (by decide +kernel)
def gm_y37 : MethodName := ⟨"GrammarMachineModel", "lookAll", "(II)V"⟩
abbrev gm_c37 : ByteArray := prog_14_method_38_code
theorem gm_k37 : Cond.code gm_y37 gm_c37 4 none ∈ gm_WS := gm_m 1108 (by decide +kernel) (by decide +kernel)
def gm_y38 : MethodName := ⟨"GrammarMachineModel", "keep", "(II)V"⟩
abbrev gm_c38 : ByteArray := prog_14_method_39_code
theorem gm_k38 : Cond.code gm_y38 gm_c38 3 none ∈ gm_WS := gm_m 1132 (by decide +kernel) (by decide +kernel)
def gm_y39 : MethodName := ⟨"GrammarMachineModel", "turn", "(I)V"⟩
abbrev gm_c39 : ByteArray := prog_14_method_40_code
theorem gm_k39 : Cond.code gm_y39 gm_c39 5 none ∈ gm_WS := gm_m 1136 (by decide +kernel) (by decide +kernel)
def gm_y40 : MethodName := ⟨"GrammarMachineModel", "push", "(II)V"⟩
abbrev gm_c40 : ByteArray := prog_14_method_41_code
theorem gm_k40 : Cond.code gm_y40 gm_c40 3 none ∈ gm_WS := gm_m 1124 (by decide +kernel) (by decide +kernel)
def gm_y41 : MethodName := ⟨"GrammarMachineModel", "captureWithin", "(II)V"⟩
abbrev gm_c41 : ByteArray := prog_14_method_42_code
theorem gm_k41 : Cond.code gm_y41 gm_c41 7 none ∈ gm_WS := gm_m 1128 (by decide +kernel) (by decide +kernel)
def gm_y42 : MethodName := ⟨"GrammarMachineModel", "matched", "(II)I"⟩
abbrev gm_c42 : ByteArray := prog_14_method_43_code
theorem gm_k42 : Cond.code gm_y42 gm_c42 5 (some .int) ∈ gm_WS := gm_m 1104 (by decide +kernel) (by decide +kernel)
def gm_y43 : MethodName := ⟨"GrammarMachineModel", "match", "(II)I"⟩
abbrev gm_c43 : ByteArray := prog_14_method_44_code
theorem gm_k43 : Cond.code gm_y43 gm_c43 3 (some .int) ∈ gm_WS := gm_m 1080 (by decide +kernel) (by decide +kernel)
def gm_y44 : MethodName := ⟨"GrammarMachineModel", "find", "(I)I"⟩
abbrev gm_c44 : ByteArray := prog_14_method_45_code
theorem gm_k44 : Cond.code gm_y44 gm_c44 3 (some .int) ∈ gm_WS := gm_m 1140 (by decide +kernel) (by decide +kernel)
def gm_y45 : MethodName := ⟨"GrammarMachineModel", "captures", "()I"⟩
abbrev gm_c45 : ByteArray := prog_14_method_46_code
theorem gm_k45 : Cond.code gm_y45 gm_c45 1 (some .int) ∈ gm_WS := gm_m 1144 (by decide +kernel) (by decide +kernel)
def gm_y46 : MethodName := ⟨"GrammarMachineModel", "capture", "(II)I"⟩
abbrev gm_c46 : ByteArray := prog_14_method_47_code
theorem gm_k46 : Cond.code gm_y46 gm_c46 3 (some .int) ∈ gm_WS := gm_m 1148 (by decide +kernel) (by decide +kernel)
def gm_y47 : MethodName := ⟨"GrammarMachineModel", "farthest", "()I"⟩
abbrev gm_c47 : ByteArray := prog_14_method_48_code
theorem gm_k47 : Cond.code gm_y47 gm_c47 1 (some .int) ∈ gm_WS := gm_m 1152 (by decide +kernel) (by decide +kernel)
def gm_y48 : MethodName := ⟨"GrammarMachineModel", "tried", "()I"⟩
abbrev gm_c48 : ByteArray := prog_14_method_49_code
theorem gm_k48 : Cond.code gm_y48 gm_c48 1 (some .int) ∈ gm_WS := gm_m 1156 (by decide +kernel) (by decide +kernel)
def gm_zl (G : (Nat → Prop) → State → Heap → Prop) : List gx_M := [(gm_cl, gm_tyl, G, Cond.code gm_y0 gm_c0 1 none :: gm_WS, gm_c0, gm_y0, 1, none), (gm_cl, gm_tyl, G, Cond.code gm_y1 gm_c1 1 (some .int) :: gm_WS, gm_c1, gm_y1, 1, (some .int)), (gm_cl, gm_tyl, G, Cond.code gm_y2 gm_c2 1 (some .boolean) :: gm_WS, gm_c2, gm_y2, 1, (some .boolean)), (gm_cl, gm_tyl, G, Cond.code gm_y3 gm_c3 3 (some .int) :: gm_WS, gm_c3, gm_y3, 3, (some .int)), (gm_cl, gm_tyl, G, Cond.code gm_y4 gm_c4 4 (some .boolean) :: gm_WS, gm_c4, gm_y4, 4, (some .boolean)), (gm_cl, gm_tyl, G, Cond.code gm_y5 gm_c5 4 (some .boolean) :: gm_WS, gm_c5, gm_y5, 4, (some .boolean)), (gm_cl, gm_tyl, G, Cond.code gm_y6 gm_c6 2 (some .int) :: gm_WS, gm_c6, gm_y6, 2, (some .int)), (gm_cl, gm_tyl, G, Cond.code gm_y7 gm_c7 2 (some .int) :: gm_WS, gm_c7, gm_y7, 2, (some .int)), (gm_cl, gm_tyl, G, Cond.code gm_y8 gm_c8 1 (some .boolean) :: gm_WS, gm_c8, gm_y8, 1, (some .boolean)), (gm_cl, gm_tyl, G, Cond.code gm_y9 gm_c9 4 (some .int) :: gm_WS, gm_c9, gm_y9, 4, (some .int)), (gm_cl, gm_tyl, G, Cond.code gm_y10 gm_c10 3 none :: gm_WS, gm_c10, gm_y10, 3, none), (gm_cl, gm_tyl, G, Cond.code gm_y11 gm_c11 2 none :: gm_WS, gm_c11, gm_y11, 2, none), (gm_cl, gm_tyl, G, Cond.code gm_y12 gm_c12 2 none :: gm_WS, gm_c12, gm_y12, 2, none), (gm_cl, gm_tyl, G, Cond.code gm_y13 gm_c13 4 (some .int) :: gm_WS, gm_c13, gm_y13, 4, (some .int)), (gm_cl, gm_tyl, G, Cond.code gm_y14 gm_c14 3 (some .int) :: gm_WS, gm_c14, gm_y14, 3, (some .int)), (gm_cl, gm_tyl, G, Cond.code gm_y15 gm_c15 5 none :: gm_WS, gm_c15, gm_y15, 5, none), (gm_cl, gm_tyl, G, Cond.code gm_y16 gm_c16 2 none :: gm_WS, gm_c16, gm_y16, 2, none), (gm_cl, gm_tyl, G, Cond.code gm_y17 gm_c17 4 none :: gm_WS, gm_c17, gm_y17, 4, none), (gm_cl, gm_tyl, G, Cond.code gm_y18 gm_c18 1 (some .boolean) :: gm_WS, gm_c18, gm_y18, 1, (some .boolean)), (gm_cl, gm_tyl, G, Cond.code gm_y19 gm_c19 5 (some .int) :: gm_WS, gm_c19, gm_y19, 5, (some .int)), (gm_cl, gm_tyl, G, Cond.code gm_y20 gm_c20 2 (some .boolean) :: gm_WS, gm_c20, gm_y20, 2, (some .boolean)), (gm_cl, gm_tyl, G, Cond.code gm_y21 gm_c21 3 (some .char) :: gm_WS, gm_c21, gm_y21, 3, (some .char)), (gm_cl, gm_tyl, G, Cond.code gm_y22 gm_c22 2 (some .boolean) :: gm_WS, gm_c22, gm_y22, 2, (some .boolean)), (gm_cl, gm_tyl, G, Cond.code gm_y23 gm_c23 5 (some .boolean) :: gm_WS, gm_c23, gm_y23, 5, (some .boolean)), (gm_cl, gm_tyl, G, Cond.code gm_y24 gm_c24 6 (some .int) :: gm_WS, gm_c24, gm_y24, 6, (some .int)), (gm_cl, gm_tyl, G, Cond.code gm_y25 gm_c25 5 none :: gm_WS, gm_c25, gm_y25, 5, none), (gm_cl, gm_tyl, G, Cond.code gm_y26 gm_c26 6 (some .int) :: gm_WS, gm_c26, gm_y26, 6, (some .int)), (gm_cl, gm_tyl, G, Cond.code gm_y27 gm_c27 8 (some .int) :: gm_WS, gm_c27, gm_y27, 8, (some .int)), (gm_cl, gm_tyl, G, Cond.code gm_y28 gm_c28 2 (some .int) :: gm_WS, gm_c28, gm_y28, 2, (some .int)), (gm_cl, gm_tyl, G, Cond.code gm_y29 gm_c29 5 (some .int) :: gm_WS, gm_c29, gm_y29, 5, (some .int)), (gm_cl, gm_tyl, G, Cond.code gm_y30 gm_c30 5 (some .int) :: gm_WS, gm_c30, gm_y30, 5, (some .int)), (gm_cl, gm_tyl, G, Cond.code gm_y31 gm_c31 5 (some .int) :: gm_WS, gm_c31, gm_y31, 5, (some .int)), (gm_cl, gm_tyl, G, Cond.code gm_y32 gm_c32 5 (some .int) :: gm_WS, gm_c32, gm_y32, 5, (some .int)), (gm_cl, gm_tyl, G, Cond.code gm_y33 gm_c33 4 none :: gm_WS, gm_c33, gm_y33, 4, none), (gm_cl, gm_tyl, G, Cond.code gm_y34 gm_c34 3 none :: gm_WS, gm_c34, gm_y34, 3, none), (gm_cl, gm_tyl, G, Cond.code gm_y35 gm_c35 3 none :: gm_WS, gm_c35, gm_y35, 3, none), (gm_cl, gm_tyl, G, Cond.code gm_y36 gm_c36 6 none :: gm_WS, gm_c36, gm_y36, 6, none), (gm_cl, gm_tyl, G, Cond.code gm_y37 gm_c37 4 none :: gm_WS, gm_c37, gm_y37, 4, none), (gm_cl, gm_tyl, G, Cond.code gm_y38 gm_c38 3 none :: gm_WS, gm_c38, gm_y38, 3, none), (gm_cl, gm_tyl, G, Cond.code gm_y39 gm_c39 5 none :: gm_WS, gm_c39, gm_y39, 5, none), (gm_cl, gm_tyl, G, Cond.code gm_y40 gm_c40 3 none :: gm_WS, gm_c40, gm_y40, 3, none), (gm_cl, gm_tyl, G, Cond.code gm_y41 gm_c41 7 none :: gm_WS, gm_c41, gm_y41, 7, none), (gm_cl, gm_tyl, G, Cond.code gm_y42 gm_c42 5 (some .int) :: gm_WS, gm_c42, gm_y42, 5, (some .int)), (gm_cl, gm_tyl, G, Cond.code gm_y43 gm_c43 3 (some .int) :: gm_WS, gm_c43, gm_y43, 3, (some .int)), (gm_cl, gm_tyl, G, Cond.code gm_y44 gm_c44 3 (some .int) :: gm_WS, gm_c44, gm_y44, 3, (some .int)), (gm_cl, gm_tyl, G, Cond.code gm_y45 gm_c45 1 (some .int) :: gm_WS, gm_c45, gm_y45, 1, (some .int)), (gm_cl, gm_tyl, G, Cond.code gm_y46 gm_c46 3 (some .int) :: gm_WS, gm_c46, gm_y46, 3, (some .int)), (gm_cl, gm_tyl, G, Cond.code gm_y47 gm_c47 1 (some .int) :: gm_WS, gm_c47, gm_y47, 1, (some .int)), (gm_cl, gm_tyl, G, Cond.code gm_y48 gm_c48 1 (some .int) :: gm_WS, gm_c48, gm_y48, 1, (some .int))]
def gm_z (G : (Nat → Prop) → State → Heap → Prop) : Nat → gx_M := fun m => (gm_zl G).getD m (gm_cl, gm_tyl, G, Cond.code gm_y1 gm_c1 1 (some .int) :: gm_WS, gm_c1, gm_y1, 1, some .int)
theorem gm_w860 : Cond.methodLink "GrammarMachineModel" 1 ⟨"java/lang/Object", "<init>", "()V"⟩ ∈ gm_WS := gm_m 860 (by decide +kernel) (by decide +kernel)
theorem gm_w36 : Cond.instanceMethod ⟨"java/lang/Object", "<init>", "()V"⟩ ∈ gm_WS := gm_m 36 (by decide +kernel) (by decide +kernel)
theorem gm_w37 : Cond.code Lib.objectInit ⟨#[0xb1]⟩ 1 none ∈ gm_WS := gm_m 37 (by decide +kernel) (by decide +kernel)
theorem gm_w79 : Cond.arrayClass .int ∈ gm_WS := gm_m 79 (by decide +kernel) (by decide +kernel)
theorem gm_w862 : Cond.fieldLink "GrammarMachineModel" 7 "GrammarMachineModel" "line" "[I" ∈ gm_WS := gm_m 862 (by decide +kernel) (by decide +kernel)
theorem gm_w864 : Cond.fieldLink "GrammarMachineModel" 13 "GrammarMachineModel" "text" "[I" ∈ gm_WS := gm_m 864 (by decide +kernel) (by decide +kernel)
theorem gm_w967 : Cond.arrayClass .boolean ∈ gm_WS := gm_m 967 (by decide +kernel) (by decide +kernel)
theorem gm_w866 : Cond.fieldLink "GrammarMachineModel" 16 "GrammarMachineModel" "defined" "[Z" ∈ gm_WS := gm_m 866 (by decide +kernel) (by decide +kernel)
theorem gm_w867 : Cond.fieldLink "GrammarMachineModel" 20 "GrammarMachineModel" "lines" "[I" ∈ gm_WS := gm_m 867 (by decide +kernel) (by decide +kernel)
theorem gm_w868 : Cond.fieldLink "GrammarMachineModel" 23 "GrammarMachineModel" "lineLength" "[I" ∈ gm_WS := gm_m 868 (by decide +kernel) (by decide +kernel)
theorem gm_w869 : Cond.fieldLink "GrammarMachineModel" 26 "GrammarMachineModel" "many" "[I" ∈ gm_WS := gm_m 869 (by decide +kernel) (by decide +kernel)
theorem gm_w870 : Cond.fieldLink "GrammarMachineModel" 29 "GrammarMachineModel" "kind" "[I" ∈ gm_WS := gm_m 870 (by decide +kernel) (by decide +kernel)
theorem gm_w871 : Cond.fieldLink "GrammarMachineModel" 32 "GrammarMachineModel" "within" "[I" ∈ gm_WS := gm_m 871 (by decide +kernel) (by decide +kernel)
theorem gm_w872 : Cond.fieldLink "GrammarMachineModel" 35 "GrammarMachineModel" "most" "[I" ∈ gm_WS := gm_m 872 (by decide +kernel) (by decide +kernel)
theorem gm_w873 : Cond.fieldLink "GrammarMachineModel" 38 "GrammarMachineModel" "next" "[I" ∈ gm_WS := gm_m 873 (by decide +kernel) (by decide +kernel)
theorem gm_w874 : Cond.fieldLink "GrammarMachineModel" 41 "GrammarMachineModel" "last" "[I" ∈ gm_WS := gm_m 874 (by decide +kernel) (by decide +kernel)
theorem gm_w875 : Cond.fieldLink "GrammarMachineModel" 44 "GrammarMachineModel" "empty" "[Z" ∈ gm_WS := gm_m 875 (by decide +kernel) (by decide +kernel)
theorem gm_w876 : Cond.fieldLink "GrammarMachineModel" 47 "GrammarMachineModel" "starts" "[I" ∈ gm_WS := gm_m 876 (by decide +kernel) (by decide +kernel)
theorem gm_w877 : Cond.fieldLink "GrammarMachineModel" 50 "GrammarMachineModel" "uses" "[I" ∈ gm_WS := gm_m 877 (by decide +kernel) (by decide +kernel)
theorem gm_w881 : Cond.fieldLink "GrammarMachineModel" 53 "GrammarMachineModel" "choices" "[I" ∈ gm_WS := gm_m 881 (by decide +kernel) (by decide +kernel)
theorem gm_w882 : Cond.fieldLink "GrammarMachineModel" 56 "GrammarMachineModel" "sequences" "[I" ∈ gm_WS := gm_m 882 (by decide +kernel) (by decide +kernel)
theorem gm_w883 : Cond.fieldLink "GrammarMachineModel" 59 "GrammarMachineModel" "braces" "[I" ∈ gm_WS := gm_m 883 (by decide +kernel) (by decide +kernel)
theorem gm_w884 : Cond.fieldLink "GrammarMachineModel" 62 "GrammarMachineModel" "prefixFrom" "[I" ∈ gm_WS := gm_m 884 (by decide +kernel) (by decide +kernel)
theorem gm_w885 : Cond.fieldLink "GrammarMachineModel" 65 "GrammarMachineModel" "prefixTo" "[I" ∈ gm_WS := gm_m 885 (by decide +kernel) (by decide +kernel)
theorem gm_w886 : Cond.fieldLink "GrammarMachineModel" 68 "GrammarMachineModel" "ends" "[I" ∈ gm_WS := gm_m 886 (by decide +kernel) (by decide +kernel)
theorem gm_w887 : Cond.fieldLink "GrammarMachineModel" 71 "GrammarMachineModel" "looked" "[Z" ∈ gm_WS := gm_m 887 (by decide +kernel) (by decide +kernel)
theorem gm_w888 : Cond.fieldLink "GrammarMachineModel" 74 "GrammarMachineModel" "stack" "[I" ∈ gm_WS := gm_m 888 (by decide +kernel) (by decide +kernel)
theorem gm_w890 : Cond.fieldLink "GrammarMachineModel" 77 "GrammarMachineModel" "pairs" "[Z" ∈ gm_WS := gm_m 890 (by decide +kernel) (by decide +kernel)
theorem gm_w892 : Cond.fieldLink "GrammarMachineModel" 80 "GrammarMachineModel" "begins" "[I" ∈ gm_WS := gm_m 892 (by decide +kernel) (by decide +kernel)
theorem gm_w893 : Cond.fieldLink "GrammarMachineModel" 83 "GrammarMachineModel" "closes" "[I" ∈ gm_WS := gm_m 893 (by decide +kernel) (by decide +kernel)
theorem gm_w894 : Cond.fieldLink "GrammarMachineModel" 86 "GrammarMachineModel" "far" "I" ∈ gm_WS := gm_m 894 (by decide +kernel) (by decide +kernel)
theorem gm_w861 : Cond.fieldLink "GrammarMachineModel" 90 "GrammarMachineModel" "thrown" "I" ∈ gm_WS := gm_m 861 (by decide +kernel) (by decide +kernel)
theorem gm_w5 : Cond.initialized "GrammarMachineModel" ∈ gm_WS := gm_m 5 (by decide +kernel) (by decide +kernel)
theorem gm_w976 : Cond.methodLink "GrammarMachineModel" 93 ⟨"GrammarMachineModel", "charactersOf", "(I)I"⟩ ∈ gm_WS := gm_m 976 (by decide +kernel) (by decide +kernel)
theorem gm_w977 : Cond.static ⟨"GrammarMachineModel", "charactersOf", "(I)I"⟩ ∈ gm_WS := gm_m 977 (by decide +kernel) (by decide +kernel)
theorem gm_w863 : Cond.fieldLink "GrammarMachineModel" 97 "GrammarMachineModel" "typed" "I" ∈ gm_WS := gm_m 863 (by decide +kernel) (by decide +kernel)
theorem gm_w865 : Cond.fieldLink "GrammarMachineModel" 100 "GrammarMachineModel" "length" "I" ∈ gm_WS := gm_m 865 (by decide +kernel) (by decide +kernel)
theorem gm_w1003 : Cond.methodLink "GrammarMachineModel" 103 ⟨"GrammarMachineModel", "make", "(II)I"⟩ ∈ gm_WS := gm_m 1003 (by decide +kernel) (by decide +kernel)
theorem gm_w1005 : Cond.instanceMethod ⟨"GrammarMachineModel", "make", "(II)I"⟩ ∈ gm_WS := gm_m 1005 (by decide +kernel) (by decide +kernel)
theorem gm_s26 : Cond.selects "GrammarMachineModel" ⟨"GrammarMachineModel", "make", "(II)I"⟩ ⟨"GrammarMachineModel", "make", "(II)I"⟩ ∈ gm_WS := gm_ms 26 (by decide +kernel) (by decide +kernel)
theorem gm_w880 : Cond.fieldLink "GrammarMachineModel" 107 "GrammarMachineModel" "depth" "I" ∈ gm_WS := gm_m 880 (by decide +kernel) (by decide +kernel)
theorem gm_w1011 : Cond.methodLink "GrammarMachineModel" 110 ⟨"GrammarMachineModel", "append", "(II)V"⟩ ∈ gm_WS := gm_m 1011 (by decide +kernel) (by decide +kernel)
theorem gm_w1013 : Cond.instanceMethod ⟨"GrammarMachineModel", "append", "(II)V"⟩ ∈ gm_WS := gm_m 1013 (by decide +kernel) (by decide +kernel)
theorem gm_s28 : Cond.selects "GrammarMachineModel" ⟨"GrammarMachineModel", "append", "(II)V"⟩ ⟨"GrammarMachineModel", "append", "(II)V"⟩ ∈ gm_WS := gm_ms 28 (by decide +kernel) (by decide +kernel)
theorem gm_w1007 : Cond.methodLink "GrammarMachineModel" 114 ⟨"GrammarMachineModel", "newSequence", "()V"⟩ ∈ gm_WS := gm_m 1007 (by decide +kernel) (by decide +kernel)
theorem gm_w1009 : Cond.instanceMethod ⟨"GrammarMachineModel", "newSequence", "()V"⟩ ∈ gm_WS := gm_m 1009 (by decide +kernel) (by decide +kernel)
theorem gm_s27 : Cond.selects "GrammarMachineModel" ⟨"GrammarMachineModel", "newSequence", "()V"⟩ ⟨"GrammarMachineModel", "newSequence", "()V"⟩ ∈ gm_WS := gm_ms 27 (by decide +kernel) (by decide +kernel)
theorem gm_w878 : Cond.fieldLink "GrammarMachineModel" 117 "GrammarMachineModel" "at" "I" ∈ gm_WS := gm_m 878 (by decide +kernel) (by decide +kernel)
theorem gm_w995 : Cond.methodLink "GrammarMachineModel" 120 ⟨"GrammarMachineModel", "look", "(I)I"⟩ ∈ gm_WS := gm_m 995 (by decide +kernel) (by decide +kernel)
theorem gm_w997 : Cond.instanceMethod ⟨"GrammarMachineModel", "look", "(I)I"⟩ ∈ gm_WS := gm_m 997 (by decide +kernel) (by decide +kernel)
theorem gm_s24 : Cond.selects "GrammarMachineModel" ⟨"GrammarMachineModel", "look", "(I)I"⟩ ⟨"GrammarMachineModel", "look", "(I)I"⟩ ∈ gm_WS := gm_ms 24 (by decide +kernel) (by decide +kernel)
theorem gm_w1023 : Cond.methodLink "GrammarMachineModel" 123 ⟨"GrammarMachineModel", "isSmall", "(I)Z"⟩ ∈ gm_WS := gm_m 1023 (by decide +kernel) (by decide +kernel)
theorem gm_w1024 : Cond.static ⟨"GrammarMachineModel", "isSmall", "(I)Z"⟩ ∈ gm_WS := gm_m 1024 (by decide +kernel) (by decide +kernel)
theorem gm_w1026 : Cond.methodLink "GrammarMachineModel" 127 ⟨"GrammarMachineModel", "character", "(II)I"⟩ ∈ gm_WS := gm_m 1026 (by decide +kernel) (by decide +kernel)
theorem gm_w1028 : Cond.instanceMethod ⟨"GrammarMachineModel", "character", "(II)I"⟩ ∈ gm_WS := gm_m 1028 (by decide +kernel) (by decide +kernel)
theorem gm_s31 : Cond.selects "GrammarMachineModel" ⟨"GrammarMachineModel", "character", "(II)I"⟩ ⟨"GrammarMachineModel", "character", "(II)I"⟩ ∈ gm_WS := gm_ms 31 (by decide +kernel) (by decide +kernel)
theorem gm_w1030 : Cond.methodLink "GrammarMachineModel" 130 ⟨"GrammarMachineModel", "take", "(I)V"⟩ ∈ gm_WS := gm_m 1030 (by decide +kernel) (by decide +kernel)
theorem gm_w1032 : Cond.instanceMethod ⟨"GrammarMachineModel", "take", "(I)V"⟩ ∈ gm_WS := gm_m 1032 (by decide +kernel) (by decide +kernel)
theorem gm_s32 : Cond.selects "GrammarMachineModel" ⟨"GrammarMachineModel", "take", "(I)V"⟩ ⟨"GrammarMachineModel", "take", "(I)V"⟩ ∈ gm_WS := gm_ms 32 (by decide +kernel) (by decide +kernel)
theorem gm_w879 : Cond.fieldLink "GrammarMachineModel" 134 "GrammarMachineModel" "bad" "Z" ∈ gm_WS := gm_m 879 (by decide +kernel) (by decide +kernel)
theorem gm_w999 : Cond.methodLink "GrammarMachineModel" 138 ⟨"GrammarMachineModel", "goesIn", "(I)V"⟩ ∈ gm_WS := gm_m 999 (by decide +kernel) (by decide +kernel)
theorem gm_w1001 : Cond.instanceMethod ⟨"GrammarMachineModel", "goesIn", "(I)V"⟩ ∈ gm_WS := gm_m 1001 (by decide +kernel) (by decide +kernel)
theorem gm_s25 : Cond.selects "GrammarMachineModel" ⟨"GrammarMachineModel", "goesIn", "(I)V"⟩ ⟨"GrammarMachineModel", "goesIn", "(I)V"⟩ ∈ gm_WS := gm_ms 25 (by decide +kernel) (by decide +kernel)
theorem gm_w1019 : Cond.methodLink "GrammarMachineModel" 141 ⟨"GrammarMachineModel", "atom", "()I"⟩ ∈ gm_WS := gm_m 1019 (by decide +kernel) (by decide +kernel)
theorem gm_w1021 : Cond.instanceMethod ⟨"GrammarMachineModel", "atom", "()I"⟩ ∈ gm_WS := gm_m 1021 (by decide +kernel) (by decide +kernel)
theorem gm_s30 : Cond.selects "GrammarMachineModel" ⟨"GrammarMachineModel", "atom", "()I"⟩ ⟨"GrammarMachineModel", "atom", "()I"⟩ ∈ gm_WS := gm_ms 30 (by decide +kernel) (by decide +kernel)
theorem gm_w1034 : Cond.methodLink "GrammarMachineModel" 145 ⟨"GrammarMachineModel", "closeAll", "()V"⟩ ∈ gm_WS := gm_m 1034 (by decide +kernel) (by decide +kernel)
theorem gm_w1036 : Cond.instanceMethod ⟨"GrammarMachineModel", "closeAll", "()V"⟩ ∈ gm_WS := gm_m 1036 (by decide +kernel) (by decide +kernel)
theorem gm_s33 : Cond.selects "GrammarMachineModel" ⟨"GrammarMachineModel", "closeAll", "()V"⟩ ⟨"GrammarMachineModel", "closeAll", "()V"⟩ ∈ gm_WS := gm_ms 33 (by decide +kernel) (by decide +kernel)
theorem gm_w1015 : Cond.methodLink "GrammarMachineModel" 148 ⟨"GrammarMachineModel", "readItem", "()V"⟩ ∈ gm_WS := gm_m 1015 (by decide +kernel) (by decide +kernel)
theorem gm_w1017 : Cond.instanceMethod ⟨"GrammarMachineModel", "readItem", "()V"⟩ ∈ gm_WS := gm_m 1017 (by decide +kernel) (by decide +kernel)
theorem gm_s29 : Cond.selects "GrammarMachineModel" ⟨"GrammarMachineModel", "readItem", "()V"⟩ ⟨"GrammarMachineModel", "readItem", "()V"⟩ ∈ gm_WS := gm_ms 29 (by decide +kernel) (by decide +kernel)
theorem gm_w991 : Cond.methodLink "GrammarMachineModel" 151 ⟨"GrammarMachineModel", "read", "()Z"⟩ ∈ gm_WS := gm_m 991 (by decide +kernel) (by decide +kernel)
theorem gm_w993 : Cond.instanceMethod ⟨"GrammarMachineModel", "read", "()Z"⟩ ∈ gm_WS := gm_m 993 (by decide +kernel) (by decide +kernel)
theorem gm_s23 : Cond.selects "GrammarMachineModel" ⟨"GrammarMachineModel", "read", "()Z"⟩ ⟨"GrammarMachineModel", "read", "()Z"⟩ ∈ gm_WS := gm_ms 23 (by decide +kernel) (by decide +kernel)
theorem gm_w1042 : Cond.methodLink "GrammarMachineModel" 155 ⟨"GrammarMachineModel", "isRule", "(I)Z"⟩ ∈ gm_WS := gm_m 1042 (by decide +kernel) (by decide +kernel)
theorem gm_w1043 : Cond.static ⟨"GrammarMachineModel", "isRule", "(I)Z"⟩ ∈ gm_WS := gm_m 1043 (by decide +kernel) (by decide +kernel)
theorem gm_w1061 : Cond.methodLink "GrammarMachineModel" 158 ⟨"GrammarMachineModel", "isNode", "(I)Z"⟩ ∈ gm_WS := gm_m 1061 (by decide +kernel) (by decide +kernel)
theorem gm_w1063 : Cond.instanceMethod ⟨"GrammarMachineModel", "isNode", "(I)Z"⟩ ∈ gm_WS := gm_m 1063 (by decide +kernel) (by decide +kernel)
theorem gm_s36 : Cond.selects "GrammarMachineModel" ⟨"GrammarMachineModel", "isNode", "(I)Z"⟩ ⟨"GrammarMachineModel", "isNode", "(I)Z"⟩ ∈ gm_WS := gm_ms 36 (by decide +kernel) (by decide +kernel)
theorem gm_w1065 : Cond.methodLink "GrammarMachineModel" 161 ⟨"GrammarMachineModel", "emptyNow", "(I)Z"⟩ ∈ gm_WS := gm_m 1065 (by decide +kernel) (by decide +kernel)
theorem gm_w1067 : Cond.instanceMethod ⟨"GrammarMachineModel", "emptyNow", "(I)Z"⟩ ∈ gm_WS := gm_m 1067 (by decide +kernel) (by decide +kernel)
theorem gm_s37 : Cond.selects "GrammarMachineModel" ⟨"GrammarMachineModel", "emptyNow", "(I)Z"⟩ ⟨"GrammarMachineModel", "emptyNow", "(I)Z"⟩ ∈ gm_WS := gm_ms 37 (by decide +kernel) (by decide +kernel)
theorem gm_w1069 : Cond.methodLink "GrammarMachineModel" 164 ⟨"GrammarMachineModel", "startsNow", "(I)I"⟩ ∈ gm_WS := gm_m 1069 (by decide +kernel) (by decide +kernel)
theorem gm_w1071 : Cond.instanceMethod ⟨"GrammarMachineModel", "startsNow", "(I)I"⟩ ∈ gm_WS := gm_m 1071 (by decide +kernel) (by decide +kernel)
theorem gm_s38 : Cond.selects "GrammarMachineModel" ⟨"GrammarMachineModel", "startsNow", "(I)I"⟩ ⟨"GrammarMachineModel", "startsNow", "(I)I"⟩ ∈ gm_WS := gm_ms 38 (by decide +kernel) (by decide +kernel)
theorem gm_w1057 : Cond.methodLink "GrammarMachineModel" 167 ⟨"GrammarMachineModel", "work", "()V"⟩ ∈ gm_WS := gm_m 1057 (by decide +kernel) (by decide +kernel)
theorem gm_w1059 : Cond.instanceMethod ⟨"GrammarMachineModel", "work", "()V"⟩ ∈ gm_WS := gm_m 1059 (by decide +kernel) (by decide +kernel)
theorem gm_s35 : Cond.selects "GrammarMachineModel" ⟨"GrammarMachineModel", "work", "()V"⟩ ⟨"GrammarMachineModel", "work", "()V"⟩ ∈ gm_WS := gm_ms 35 (by decide +kernel) (by decide +kernel)
theorem gm_w1073 : Cond.methodLink "GrammarMachineModel" 170 ⟨"GrammarMachineModel", "reached", "(II)I"⟩ ∈ gm_WS := gm_m 1073 (by decide +kernel) (by decide +kernel)
theorem gm_w1075 : Cond.instanceMethod ⟨"GrammarMachineModel", "reached", "(II)I"⟩ ∈ gm_WS := gm_m 1075 (by decide +kernel) (by decide +kernel)
theorem gm_s39 : Cond.selects "GrammarMachineModel" ⟨"GrammarMachineModel", "reached", "(II)I"⟩ ⟨"GrammarMachineModel", "reached", "(II)I"⟩ ∈ gm_WS := gm_ms 39 (by decide +kernel) (by decide +kernel)
theorem gm_w1053 : Cond.methodLink "GrammarMachineModel" 173 ⟨"GrammarMachineModel", "checked", "(I)I"⟩ ∈ gm_WS := gm_m 1053 (by decide +kernel) (by decide +kernel)
theorem gm_w1055 : Cond.instanceMethod ⟨"GrammarMachineModel", "checked", "(I)I"⟩ ∈ gm_WS := gm_m 1055 (by decide +kernel) (by decide +kernel)
theorem gm_s34 : Cond.selects "GrammarMachineModel" ⟨"GrammarMachineModel", "checked", "(I)I"⟩ ⟨"GrammarMachineModel", "checked", "(I)I"⟩ ∈ gm_WS := gm_ms 34 (by decide +kernel) (by decide +kernel)
theorem gm_w1089 : Cond.methodLink "GrammarMachineModel" 176 ⟨"GrammarMachineModel", "sequenceFrom", "(II)I"⟩ ∈ gm_WS := gm_m 1089 (by decide +kernel) (by decide +kernel)
theorem gm_w1091 : Cond.instanceMethod ⟨"GrammarMachineModel", "sequenceFrom", "(II)I"⟩ ∈ gm_WS := gm_m 1091 (by decide +kernel) (by decide +kernel)
theorem gm_s42 : Cond.selects "GrammarMachineModel" ⟨"GrammarMachineModel", "sequenceFrom", "(II)I"⟩ ⟨"GrammarMachineModel", "sequenceFrom", "(II)I"⟩ ∈ gm_WS := gm_ms 42 (by decide +kernel) (by decide +kernel)
theorem gm_w1093 : Cond.methodLink "GrammarMachineModel" 179 ⟨"GrammarMachineModel", "choiceFrom", "(II)I"⟩ ∈ gm_WS := gm_m 1093 (by decide +kernel) (by decide +kernel)
theorem gm_w1095 : Cond.instanceMethod ⟨"GrammarMachineModel", "choiceFrom", "(II)I"⟩ ∈ gm_WS := gm_m 1095 (by decide +kernel) (by decide +kernel)
theorem gm_s43 : Cond.selects "GrammarMachineModel" ⟨"GrammarMachineModel", "choiceFrom", "(II)I"⟩ ⟨"GrammarMachineModel", "choiceFrom", "(II)I"⟩ ∈ gm_WS := gm_ms 43 (by decide +kernel) (by decide +kernel)
theorem gm_w1097 : Cond.methodLink "GrammarMachineModel" 182 ⟨"GrammarMachineModel", "roundFrom", "(II)I"⟩ ∈ gm_WS := gm_m 1097 (by decide +kernel) (by decide +kernel)
theorem gm_w1099 : Cond.instanceMethod ⟨"GrammarMachineModel", "roundFrom", "(II)I"⟩ ∈ gm_WS := gm_m 1099 (by decide +kernel) (by decide +kernel)
theorem gm_s44 : Cond.selects "GrammarMachineModel" ⟨"GrammarMachineModel", "roundFrom", "(II)I"⟩ ⟨"GrammarMachineModel", "roundFrom", "(II)I"⟩ ∈ gm_WS := gm_ms 44 (by decide +kernel) (by decide +kernel)
theorem gm_w1085 : Cond.methodLink "GrammarMachineModel" 185 ⟨"GrammarMachineModel", "endNow", "(II)I"⟩ ∈ gm_WS := gm_m 1085 (by decide +kernel) (by decide +kernel)
theorem gm_w1087 : Cond.instanceMethod ⟨"GrammarMachineModel", "endNow", "(II)I"⟩ ∈ gm_WS := gm_m 1087 (by decide +kernel) (by decide +kernel)
theorem gm_s41 : Cond.selects "GrammarMachineModel" ⟨"GrammarMachineModel", "endNow", "(II)I"⟩ ⟨"GrammarMachineModel", "endNow", "(II)I"⟩ ∈ gm_WS := gm_ms 41 (by decide +kernel) (by decide +kernel)
theorem gm_w889 : Cond.fieldLink "GrammarMachineModel" 188 "GrammarMachineModel" "top" "I" ∈ gm_WS := gm_m 889 (by decide +kernel) (by decide +kernel)
theorem gm_w895 : Cond.fieldLink "GrammarMachineModel" 191 "GrammarMachineModel" "tries" "I" ∈ gm_WS := gm_m 895 (by decide +kernel) (by decide +kernel)
theorem gm_w1113 : Cond.methodLink "GrammarMachineModel" 194 ⟨"GrammarMachineModel", "lookAt", "(II)V"⟩ ∈ gm_WS := gm_m 1113 (by decide +kernel) (by decide +kernel)
theorem gm_w1115 : Cond.instanceMethod ⟨"GrammarMachineModel", "lookAt", "(II)V"⟩ ∈ gm_WS := gm_m 1115 (by decide +kernel) (by decide +kernel)
theorem gm_s48 : Cond.selects "GrammarMachineModel" ⟨"GrammarMachineModel", "lookAt", "(II)V"⟩ ⟨"GrammarMachineModel", "lookAt", "(II)V"⟩ ∈ gm_WS := gm_ms 48 (by decide +kernel) (by decide +kernel)
theorem gm_w1109 : Cond.methodLink "GrammarMachineModel" 197 ⟨"GrammarMachineModel", "rule", "(II)V"⟩ ∈ gm_WS := gm_m 1109 (by decide +kernel) (by decide +kernel)
theorem gm_w1111 : Cond.instanceMethod ⟨"GrammarMachineModel", "rule", "(II)V"⟩ ∈ gm_WS := gm_m 1111 (by decide +kernel) (by decide +kernel)
theorem gm_s47 : Cond.selects "GrammarMachineModel" ⟨"GrammarMachineModel", "rule", "(II)V"⟩ ⟨"GrammarMachineModel", "rule", "(II)V"⟩ ∈ gm_WS := gm_ms 47 (by decide +kernel) (by decide +kernel)
theorem gm_w1117 : Cond.methodLink "GrammarMachineModel" 200 ⟨"GrammarMachineModel", "lookWithin", "(II)V"⟩ ∈ gm_WS := gm_m 1117 (by decide +kernel) (by decide +kernel)
theorem gm_w1119 : Cond.instanceMethod ⟨"GrammarMachineModel", "lookWithin", "(II)V"⟩ ∈ gm_WS := gm_m 1119 (by decide +kernel) (by decide +kernel)
theorem gm_s49 : Cond.selects "GrammarMachineModel" ⟨"GrammarMachineModel", "lookWithin", "(II)V"⟩ ⟨"GrammarMachineModel", "lookWithin", "(II)V"⟩ ∈ gm_WS := gm_ms 49 (by decide +kernel) (by decide +kernel)
theorem gm_w891 : Cond.fieldLink "GrammarMachineModel" 203 "GrammarMachineModel" "kept" "I" ∈ gm_WS := gm_m 891 (by decide +kernel) (by decide +kernel)
theorem gm_w1129 : Cond.methodLink "GrammarMachineModel" 206 ⟨"GrammarMachineModel", "keep", "(II)V"⟩ ∈ gm_WS := gm_m 1129 (by decide +kernel) (by decide +kernel)
theorem gm_w1131 : Cond.instanceMethod ⟨"GrammarMachineModel", "keep", "(II)V"⟩ ∈ gm_WS := gm_m 1131 (by decide +kernel) (by decide +kernel)
theorem gm_s52 : Cond.selects "GrammarMachineModel" ⟨"GrammarMachineModel", "keep", "(II)V"⟩ ⟨"GrammarMachineModel", "keep", "(II)V"⟩ ∈ gm_WS := gm_ms 52 (by decide +kernel) (by decide +kernel)
theorem gm_w1121 : Cond.methodLink "GrammarMachineModel" 209 ⟨"GrammarMachineModel", "push", "(II)V"⟩ ∈ gm_WS := gm_m 1121 (by decide +kernel) (by decide +kernel)
theorem gm_w1123 : Cond.instanceMethod ⟨"GrammarMachineModel", "push", "(II)V"⟩ ∈ gm_WS := gm_m 1123 (by decide +kernel) (by decide +kernel)
theorem gm_s50 : Cond.selects "GrammarMachineModel" ⟨"GrammarMachineModel", "push", "(II)V"⟩ ⟨"GrammarMachineModel", "push", "(II)V"⟩ ∈ gm_WS := gm_ms 50 (by decide +kernel) (by decide +kernel)
theorem gm_w1133 : Cond.methodLink "GrammarMachineModel" 212 ⟨"GrammarMachineModel", "turn", "(I)V"⟩ ∈ gm_WS := gm_m 1133 (by decide +kernel) (by decide +kernel)
theorem gm_w1135 : Cond.instanceMethod ⟨"GrammarMachineModel", "turn", "(I)V"⟩ ∈ gm_WS := gm_m 1135 (by decide +kernel) (by decide +kernel)
theorem gm_s53 : Cond.selects "GrammarMachineModel" ⟨"GrammarMachineModel", "turn", "(I)V"⟩ ⟨"GrammarMachineModel", "turn", "(I)V"⟩ ∈ gm_WS := gm_ms 53 (by decide +kernel) (by decide +kernel)
theorem gm_w1105 : Cond.methodLink "GrammarMachineModel" 215 ⟨"GrammarMachineModel", "lookAll", "(II)V"⟩ ∈ gm_WS := gm_m 1105 (by decide +kernel) (by decide +kernel)
theorem gm_w1107 : Cond.instanceMethod ⟨"GrammarMachineModel", "lookAll", "(II)V"⟩ ∈ gm_WS := gm_m 1107 (by decide +kernel) (by decide +kernel)
theorem gm_s46 : Cond.selects "GrammarMachineModel" ⟨"GrammarMachineModel", "lookAll", "(II)V"⟩ ⟨"GrammarMachineModel", "lookAll", "(II)V"⟩ ∈ gm_WS := gm_ms 46 (by decide +kernel) (by decide +kernel)
theorem gm_w1125 : Cond.methodLink "GrammarMachineModel" 218 ⟨"GrammarMachineModel", "captureWithin", "(II)V"⟩ ∈ gm_WS := gm_m 1125 (by decide +kernel) (by decide +kernel)
theorem gm_w1127 : Cond.instanceMethod ⟨"GrammarMachineModel", "captureWithin", "(II)V"⟩ ∈ gm_WS := gm_m 1127 (by decide +kernel) (by decide +kernel)
theorem gm_s51 : Cond.selects "GrammarMachineModel" ⟨"GrammarMachineModel", "captureWithin", "(II)V"⟩ ⟨"GrammarMachineModel", "captureWithin", "(II)V"⟩ ∈ gm_WS := gm_ms 51 (by decide +kernel) (by decide +kernel)
theorem gm_w1081 : Cond.methodLink "GrammarMachineModel" 221 ⟨"GrammarMachineModel", "findEnds", "()V"⟩ ∈ gm_WS := gm_m 1081 (by decide +kernel) (by decide +kernel)
theorem gm_w1083 : Cond.instanceMethod ⟨"GrammarMachineModel", "findEnds", "()V"⟩ ∈ gm_WS := gm_m 1083 (by decide +kernel) (by decide +kernel)
theorem gm_s40 : Cond.selects "GrammarMachineModel" ⟨"GrammarMachineModel", "findEnds", "()V"⟩ ⟨"GrammarMachineModel", "findEnds", "()V"⟩ ∈ gm_WS := gm_ms 40 (by decide +kernel) (by decide +kernel)
theorem gm_w1101 : Cond.methodLink "GrammarMachineModel" 224 ⟨"GrammarMachineModel", "matched", "(II)I"⟩ ∈ gm_WS := gm_m 1101 (by decide +kernel) (by decide +kernel)
theorem gm_w1103 : Cond.instanceMethod ⟨"GrammarMachineModel", "matched", "(II)I"⟩ ∈ gm_WS := gm_m 1103 (by decide +kernel) (by decide +kernel)
theorem gm_s45 : Cond.selects "GrammarMachineModel" ⟨"GrammarMachineModel", "matched", "(II)I"⟩ ⟨"GrammarMachineModel", "matched", "(II)I"⟩ ∈ gm_WS := gm_ms 45 (by decide +kernel) (by decide +kernel)
end
section
/-! The tables of the model's methods. -/
def gm_b0 : List (Nat × gx_T) := [(0, gi_ld gx_isR 0 1),
  (1, gi_obj 4),
  (4, gi_ld gx_isR 0 5),
  (5, gi_k (.int (20)) 7),
  (7, gi_newa 0 9),
  (9, gi_put 4 1 (.array .int) 12),
  (12, gi_ld gx_isR 0 13),
  (13, gi_k (.int (12)) 15),
  (15, gi_newa 0 17),
  (17, gi_put 4 3 (.array .int) 20),
  (20, gi_ld gx_isR 0 21),
  (21, gi_k (.int (4)) 22),
  (22, gi_newa 2 24),
  (24, gi_put 4 5 (.array .boolean) 27),
  (27, gi_ld gx_isR 0 28),
  (28, gi_k (.int (80)) 30),
  (30, gi_newa 0 32),
  (32, gi_put 4 6 (.array .int) 35),
  (35, gi_ld gx_isR 0 36),
  (36, gi_k (.int (4)) 37),
  (37, gi_newa 0 39),
  (39, gi_put 4 7 (.array .int) 42),
  (42, gi_ld gx_isR 0 43),
  (43, gi_k (.int (5)) 44),
  (44, gi_newa 0 46),
  (46, gi_put 4 8 (.array .int) 49),
  (49, gi_ld gx_isR 0 50),
  (50, gi_k (.int (200)) 53),
  (53, gi_newa 0 55),
  (55, gi_put 4 9 (.array .int) 58),
  (58, gi_ld gx_isR 0 59),
  (59, gi_k (.int (200)) 62),
  (62, gi_newa 0 64),
  (64, gi_put 4 10 (.array .int) 67),
  (67, gi_ld gx_isR 0 68),
  (68, gi_k (.int (200)) 71),
  (71, gi_newa 0 73),
  (73, gi_put 4 11 (.array .int) 76),
  (76, gi_ld gx_isR 0 77),
  (77, gi_k (.int (200)) 80),
  (80, gi_newa 0 82),
  (82, gi_put 4 12 (.array .int) 85),
  (85, gi_ld gx_isR 0 86),
  (86, gi_k (.int (200)) 89),
  (89, gi_newa 0 91),
  (91, gi_put 4 13 (.array .int) 94),
  (94, gi_ld gx_isR 0 95),
  (95, gi_k (.int (200)) 98),
  (98, gi_newa 2 100),
  (100, gi_put 4 14 (.array .boolean) 103),
  (103, gi_ld gx_isR 0 104),
  (104, gi_k (.int (200)) 107),
  (107, gi_newa 0 109),
  (109, gi_put 4 15 (.array .int) 112),
  (112, gi_ld gx_isR 0 113),
  (113, gi_k (.int (4)) 114),
  (114, gi_newa 0 116),
  (116, gi_put 4 16 (.array .int) 119),
  (119, gi_ld gx_isR 0 120),
  (120, gi_k (.int (8)) 122),
  (122, gi_newa 0 124),
  (124, gi_put 4 20 (.array .int) 127),
  (127, gi_ld gx_isR 0 128),
  (128, gi_k (.int (8)) 130),
  (130, gi_newa 0 132),
  (132, gi_put 4 21 (.array .int) 135),
  (135, gi_ld gx_isR 0 136),
  (136, gi_k (.int (8)) 138),
  (138, gi_newa 0 140),
  (140, gi_put 4 22 (.array .int) 143),
  (143, gi_ld gx_isR 0 144),
  (144, gi_k (.int (8)) 146),
  (146, gi_newa 0 148),
  (148, gi_put 4 23 (.array .int) 151),
  (151, gi_ld gx_isR 0 152),
  (152, gi_k (.int (8)) 154),
  (154, gi_newa 0 156),
  (156, gi_put 4 24 (.array .int) 159),
  (159, gi_ld gx_isR 0 160),
  (160, gi_k (.int (2600)) 163),
  (163, gi_newa 0 165),
  (165, gi_put 4 25 (.array .int) 168),
  (168, gi_ld gx_isR 0 169),
  (169, gi_k (.int (2600)) 172),
  (172, gi_newa 2 174),
  (174, gi_put 4 26 (.array .boolean) 177),
  (177, gi_ld gx_isR 0 178),
  (178, gi_k (.int (2600)) 181),
  (181, gi_newa 0 183),
  (183, gi_put 4 27 (.array .int) 186),
  (186, gi_ld gx_isR 0 187),
  (187, gi_k (.int (52)) 189),
  (189, gi_newa 2 191),
  (191, gi_put 4 29 (.array .boolean) 194),
  (194, gi_ld gx_isR 0 195),
  (195, gi_k (.int (40)) 197),
  (197, gi_newa 0 199),
  (199, gi_put 4 31 (.array .int) 202),
  (202, gi_ld gx_isR 0 203),
  (203, gi_k (.int (40)) 205),
  (205, gi_newa 0 207),
  (207, gi_put 4 32 (.array .int) 210),
  (210, gi_ld gx_isR 0 211),
  (211, gi_k (.int (-1)) 212),
  (212, gi_puti 4 33 215),
  (215, gi_ret)]
def gm_b1 : List (Nat × gx_T) := [(0, gi_ld gx_isR 0 1),
  (1, gi_get 4 0 4),
  (4, gi_ireti)]
def gm_b2 : List (Nat × gx_T) := [(0, gi_ld gx_isI 0 1),
  (1, gi_if (fun x => x < 0) (fun x => ¬ x < 0) 13 4),
  (4, gi_ld gx_isI 0 5),
  (5, gi_k (.int (4)) 6),
  (6, gi_cmp (fun x y => ¬ x < y) (fun x y => x < y) 13 9),
  (9, gi_k (.int (1)) 10),
  (10, gi_goto 14),
  (13, gi_k (.int (0)) 14),
  (14, gi_iret .boolean)]
def gm_b3 : List (Nat × gx_T) := [(0, gi_k (.int (0)) 1),
  (1, gi_st gx_isI 1 2),
  (2, gi_ld gx_isI 1 3),
  (3, gi_k (.int (4)) 4),
  (4, gi_cmp (fun x y => ¬ x < y) (fun x y => x < y) 51 7),
  (7, gi_ld gx_isI 0 8),
  (8, gi_k (.int (8)) 10),
  (10, gi_ld gx_isI 1 11),
  (11, gi_bin (fun a b => a * b) 12),
  (12, gi_bin (fun a b => a >>> (b &&& 31)) 13),
  (13, gi_k (.int (255)) 16),
  (16, gi_bin (fun a b => a &&& b) 17),
  (17, gi_if (fun x => x = 0) (fun x => ¬ x = 0) 51 20),
  (20, gi_ld gx_isI 0 21),
  (21, gi_k (.int (8)) 23),
  (23, gi_ld gx_isI 1 24),
  (24, gi_bin (fun a b => a * b) 25),
  (25, gi_bin (fun a b => a >>> (b &&& 31)) 26),
  (26, gi_k (.int (255)) 29),
  (29, gi_bin (fun a b => a &&& b) 30),
  (30, gi_st gx_isI 2 31),
  (31, gi_ld gx_isI 2 32),
  (32, gi_k (.int (32)) 34),
  (34, gi_cmp (fun x y => x < y) (fun x y => ¬ x < y) 43 37),
  (37, gi_ld gx_isI 2 38),
  (38, gi_k (.int (126)) 40),
  (40, gi_cmp (fun x y => ¬ y < x) (fun x y => y < x) 45 43),
  (43, gi_k (.int (-1)) 44),
  (44, gi_ireti),
  (45, gi_inc 1 (Int32.ofInt (1)) 48),
  (48, gi_goto 2),
  (51, gi_ld gx_isI 1 52),
  (52, gi_ireti)]
def gm_b4 : List (Nat × gx_T) := [(0, gi_ld gx_isI 1 1),
  (1, gi_call 3 1 3 4),
  (4, gi_st gx_isI 2 5),
  (5, gi_ld gx_isR 0 6),
  (6, gi_ld gx_isI 2 7),
  (7, gi_if (fun x => ¬ x < 0) (fun x => x < 0) 14 10),
  (10, gi_k (.int (1)) 11),
  (11, gi_goto 15),
  (14, gi_k (.int (0)) 15),
  (15, gi_puti 4 0 18),
  (18, gi_ld gx_isI 2 19),
  (19, gi_if (fun x => x < 0) (fun x => ¬ x < 0) 33 22),
  (22, gi_ld gx_isR 0 23),
  (23, gi_get 4 2 26),
  (26, gi_ld gx_isI 2 27),
  (27, gi_bin (fun a b => a + b) 28),
  (28, gi_k (.int (20)) 30),
  (30, gi_cmp (fun x y => ¬ y < x) (fun x y => y < x) 35 33),
  (33, gi_k (.int (0)) 34),
  (34, gi_iret .boolean),
  (35, gi_k (.int (0)) 36),
  (36, gi_st gx_isI 3 37),
  (37, gi_ld gx_isI 3 38),
  (38, gi_ld gx_isI 2 39),
  (39, gi_cmp (fun x y => ¬ x < y) (fun x y => x < y) 77 42),
  (42, gi_ld gx_isR 0 43),
  (43, gi_get 4 1 46),
  (46, gi_ld gx_isR 0 47),
  (47, gi_get 4 2 50),
  (50, gi_ld gx_isI 1 51),
  (51, gi_k (.int (8)) 53),
  (53, gi_ld gx_isI 3 54),
  (54, gi_bin (fun a b => a * b) 55),
  (55, gi_bin (fun a b => a >>> (b &&& 31)) 56),
  (56, gi_k (.int (255)) 59),
  (59, gi_bin (fun a b => a &&& b) 60),
  (60, gi_ast 0 (fun z => z) 61),
  (61, gi_ld gx_isR 0 62),
  (62, gi_dup 63),
  (63, gi_get 4 2 66),
  (66, gi_k (.int (1)) 67),
  (67, gi_bin (fun a b => a + b) 68),
  (68, gi_puti 4 2 71),
  (71, gi_inc 3 (Int32.ofInt (1)) 74),
  (74, gi_goto 37),
  (77, gi_k (.int (1)) 78),
  (78, gi_iret .boolean)]
def gm_b5 : List (Nat × gx_T) := [(0, gi_ld gx_isI 1 1),
  (1, gi_call 3 1 3 4),
  (4, gi_st gx_isI 2 5),
  (5, gi_ld gx_isR 0 6),
  (6, gi_ld gx_isI 2 7),
  (7, gi_if (fun x => ¬ x < 0) (fun x => x < 0) 14 10),
  (10, gi_k (.int (1)) 11),
  (11, gi_goto 15),
  (14, gi_k (.int (0)) 15),
  (15, gi_puti 4 0 18),
  (18, gi_ld gx_isI 2 19),
  (19, gi_if (fun x => x < 0) (fun x => ¬ x < 0) 33 22),
  (22, gi_ld gx_isR 0 23),
  (23, gi_get 4 4 26),
  (26, gi_ld gx_isI 2 27),
  (27, gi_bin (fun a b => a + b) 28),
  (28, gi_k (.int (9)) 30),
  (30, gi_cmp (fun x y => ¬ y < x) (fun x y => y < x) 35 33),
  (33, gi_k (.int (0)) 34),
  (34, gi_iret .boolean),
  (35, gi_k (.int (0)) 36),
  (36, gi_st gx_isI 3 37),
  (37, gi_ld gx_isI 3 38),
  (38, gi_ld gx_isI 2 39),
  (39, gi_cmp (fun x y => ¬ x < y) (fun x y => x < y) 77 42),
  (42, gi_ld gx_isR 0 43),
  (43, gi_get 4 3 46),
  (46, gi_ld gx_isR 0 47),
  (47, gi_get 4 4 50),
  (50, gi_ld gx_isI 1 51),
  (51, gi_k (.int (8)) 53),
  (53, gi_ld gx_isI 3 54),
  (54, gi_bin (fun a b => a * b) 55),
  (55, gi_bin (fun a b => a >>> (b &&& 31)) 56),
  (56, gi_k (.int (255)) 59),
  (59, gi_bin (fun a b => a &&& b) 60),
  (60, gi_ast 0 (fun z => z) 61),
  (61, gi_ld gx_isR 0 62),
  (62, gi_dup 63),
  (63, gi_get 4 4 66),
  (66, gi_k (.int (1)) 67),
  (67, gi_bin (fun a b => a + b) 68),
  (68, gi_puti 4 4 71),
  (71, gi_inc 3 (Int32.ofInt (1)) 74),
  (74, gi_goto 37),
  (77, gi_k (.int (1)) 78),
  (78, gi_iret .boolean)]
def gm_b6 : List (Nat × gx_T) := [(0, gi_ld gx_isR 0 1),
  (1, gi_k (.int (0)) 2),
  (2, gi_puti 4 0 5),
  (5, gi_ld gx_isR 0 6),
  (6, gi_get 4 4 9),
  (9, gi_st gx_isI 1 10),
  (10, gi_ld gx_isR 0 11),
  (11, gi_k (.int (0)) 12),
  (12, gi_puti 4 4 15),
  (15, gi_ld gx_isI 1 16),
  (16, gi_ireti)]
def gm_b7 : List (Nat × gx_T) := [(0, gi_ld gx_isI 1 1),
  (1, gi_ld gx_isR 0 2),
  (2, gi_get 4 2 5),
  (5, gi_cmp (fun x y => ¬ x < y) (fun x y => x < y) 17 8),
  (8, gi_ld gx_isR 0 9),
  (9, gi_get 4 1 12),
  (12, gi_ld gx_isI 1 13),
  (13, gi_ald 0 14),
  (14, gi_goto 18),
  (17, gi_k (.int (0)) 18),
  (18, gi_ireti)]
def gm_b8 : List (Nat × gx_T) := [(0, gi_ld gx_isI 0 1),
  (1, gi_k (.int (97)) 3),
  (3, gi_cmp (fun x y => x < y) (fun x y => ¬ x < y) 12 6),
  (6, gi_ld gx_isI 0 7),
  (7, gi_k (.int (122)) 9),
  (9, gi_cmp (fun x y => ¬ y < x) (fun x y => y < x) 24 12),
  (12, gi_ld gx_isI 0 13),
  (13, gi_k (.int (48)) 15),
  (15, gi_cmp (fun x y => x < y) (fun x y => ¬ x < y) 28 18),
  (18, gi_ld gx_isI 0 19),
  (19, gi_k (.int (57)) 21),
  (21, gi_cmp (fun x y => y < x) (fun x y => ¬ y < x) 28 24),
  (24, gi_k (.int (1)) 25),
  (25, gi_goto 29),
  (28, gi_k (.int (0)) 29),
  (29, gi_iret .boolean)]
def gm_b9 : List (Nat × gx_T) := [(0, gi_k (.int (160)) 3),
  (3, gi_ld gx_isR 0 4),
  (4, gi_get 4 8 7),
  (7, gi_k (.int (4)) 8),
  (8, gi_ald 0 9),
  (9, gi_bin (fun a b => a + b) 10),
  (10, gi_st gx_isI 3 11),
  (11, gi_ld gx_isR 0 12),
  (12, gi_get 4 8 15),
  (15, gi_k (.int (4)) 16),
  (16, gi_dup2 17),
  (17, gi_ald 0 18),
  (18, gi_k (.int (1)) 19),
  (19, gi_bin (fun a b => a + b) 20),
  (20, gi_ast 0 (fun z => z) 21),
  (21, gi_ld gx_isR 0 22),
  (22, gi_get 4 9 25),
  (25, gi_ld gx_isI 3 26),
  (26, gi_ld gx_isI 1 27),
  (27, gi_ast 0 (fun z => z) 28),
  (28, gi_ld gx_isR 0 29),
  (29, gi_get 4 10 32),
  (32, gi_ld gx_isI 3 33),
  (33, gi_ld gx_isI 2 34),
  (34, gi_ast 0 (fun z => z) 35),
  (35, gi_ld gx_isR 0 36),
  (36, gi_get 4 11 39),
  (39, gi_ld gx_isI 3 40),
  (40, gi_k (.int (0)) 41),
  (41, gi_ast 0 (fun z => z) 42),
  (42, gi_ld gx_isR 0 43),
  (43, gi_get 4 12 46),
  (46, gi_ld gx_isI 3 47),
  (47, gi_k (.int (-1)) 48),
  (48, gi_ast 0 (fun z => z) 49),
  (49, gi_ld gx_isR 0 50),
  (50, gi_get 4 13 53),
  (53, gi_ld gx_isI 3 54),
  (54, gi_ld gx_isI 2 55),
  (55, gi_ast 0 (fun z => z) 56),
  (56, gi_ld gx_isI 3 57),
  (57, gi_ireti)]
def gm_b10 : List (Nat × gx_T) := [(0, gi_ld gx_isR 0 1),
  (1, gi_get 4 10 4),
  (4, gi_ld gx_isI 1 5),
  (5, gi_ald 0 6),
  (6, gi_if (fun x => ¬ x < 0) (fun x => x < 0) 19 9),
  (9, gi_ld gx_isR 0 10),
  (10, gi_get 4 10 13),
  (13, gi_ld gx_isI 1 14),
  (14, gi_ld gx_isI 2 15),
  (15, gi_ast 0 (fun z => z) 16),
  (16, gi_goto 31),
  (19, gi_ld gx_isR 0 20),
  (20, gi_get 4 12 23),
  (23, gi_ld gx_isR 0 24),
  (24, gi_get 4 13 27),
  (27, gi_ld gx_isI 1 28),
  (28, gi_ald 0 29),
  (29, gi_ld gx_isI 2 30),
  (30, gi_ast 0 (fun z => z) 31),
  (31, gi_ld gx_isR 0 32),
  (32, gi_get 4 13 35),
  (35, gi_ld gx_isI 1 36),
  (36, gi_ld gx_isI 2 37),
  (37, gi_ast 0 (fun z => z) 38),
  (38, gi_ret)]
def gm_b11 : List (Nat × gx_T) := [(0, gi_ld gx_isR 0 1),
  (1, gi_k (.int (9)) 3),
  (3, gi_k (.int (-1)) 4),
  (4, gi_vcall (gx_sel 4 9 4) 2 7),
  (7, gi_st gx_isI 1 8),
  (8, gi_ld gx_isR 0 9),
  (9, gi_get 4 21 12),
  (12, gi_ld gx_isR 0 13),
  (13, gi_get 4 19 16),
  (16, gi_ld gx_isI 1 17),
  (17, gi_ast 0 (fun z => z) 18),
  (18, gi_ld gx_isR 0 19),
  (19, gi_ld gx_isR 0 20),
  (20, gi_get 4 20 23),
  (23, gi_ld gx_isR 0 24),
  (24, gi_get 4 19 27),
  (27, gi_ald 0 28),
  (28, gi_ld gx_isI 1 29),
  (29, gi_vcall (gx_sel 4 10 3) 2 32),
  (32, gi_ret)]
def gm_b12 : List (Nat × gx_T) := [(0, gi_ld gx_isR 0 1),
  (1, gi_dup 2),
  (2, gi_get 4 19 5),
  (5, gi_k (.int (1)) 6),
  (6, gi_bin (fun a b => a + b) 7),
  (7, gi_puti 4 19 10),
  (10, gi_ld gx_isR 0 11),
  (11, gi_get 4 22 14),
  (14, gi_ld gx_isR 0 15),
  (15, gi_get 4 19 18),
  (18, gi_ld gx_isI 1 19),
  (19, gi_ast 0 (fun z => z) 20),
  (20, gi_ld gx_isR 0 21),
  (21, gi_get 4 20 24),
  (24, gi_ld gx_isR 0 25),
  (25, gi_get 4 19 28),
  (28, gi_ld gx_isR 0 29),
  (29, gi_k (.int (10)) 31),
  (31, gi_k (.int (-1)) 32),
  (32, gi_vcall (gx_sel 4 9 4) 2 35),
  (35, gi_ast 0 (fun z => z) 36),
  (36, gi_ld gx_isR 0 37),
  (37, gi_vcall (gx_sel 4 11 2) 0 40),
  (40, gi_ret)]
def gm_b13 : List (Nat × gx_T) := [(0, gi_ld gx_isR 0 1),
  (1, gi_k (.int (0)) 2),
  (2, gi_ld gx_isI 1 3),
  (3, gi_vcall (gx_sel 4 9 4) 2 6),
  (6, gi_st gx_isI 3 7),
  (7, gi_ld gx_isR 0 8),
  (8, gi_get 4 11 11),
  (11, gi_ld gx_isI 3 12),
  (12, gi_ld gx_isI 2 13),
  (13, gi_ast 0 (fun z => z) 14),
  (14, gi_ld gx_isI 3 15),
  (15, gi_ireti)]
def gm_b14 : List (Nat × gx_T) := [(0, gi_ld gx_isR 0 1),
  (1, gi_ld gx_isR 0 2),
  (2, gi_get 4 17 5),
  (5, gi_vcall (gx_sel 4 7 2) 1 8),
  (8, gi_st gx_isI 1 9),
  (9, gi_ld gx_isI 1 10),
  (10, gi_call 8 1 1 13),
  (13, gi_if (fun x => x = 0) (fun x => ¬ x = 0) 33 16),
  (16, gi_ld gx_isR 0 17),
  (17, gi_dup 18),
  (18, gi_get 4 17 21),
  (21, gi_k (.int (1)) 22),
  (22, gi_bin (fun a b => a + b) 23),
  (23, gi_puti 4 17 26),
  (26, gi_ld gx_isR 0 27),
  (27, gi_ld gx_isI 1 28),
  (28, gi_ld gx_isI 1 29),
  (29, gi_vcall (gx_sel 4 13 4) 2 32),
  (32, gi_ireti),
  (33, gi_ld gx_isI 1 34),
  (34, gi_k (.int (46)) 36),
  (36, gi_cmp (fun x y => ¬ x = y) (fun x y => x = y) 57 39),
  (39, gi_ld gx_isR 0 40),
  (40, gi_dup 41),
  (41, gi_get 4 17 44),
  (44, gi_k (.int (1)) 45),
  (45, gi_bin (fun a b => a + b) 46),
  (46, gi_puti 4 17 49),
  (49, gi_ld gx_isR 0 50),
  (50, gi_k (.int (0)) 51),
  (51, gi_k (.int (127)) 53),
  (53, gi_vcall (gx_sel 4 13 4) 2 56),
  (56, gi_ireti),
  (57, gi_ld gx_isI 1 58),
  (58, gi_k (.int (65)) 60),
  (60, gi_cmp (fun x y => x < y) (fun x y => ¬ x < y) 89 63),
  (63, gi_ld gx_isI 1 64),
  (64, gi_k (.int (68)) 66),
  (66, gi_cmp (fun x y => y < x) (fun x y => ¬ y < x) 89 69),
  (69, gi_ld gx_isR 0 70),
  (70, gi_dup 71),
  (71, gi_get 4 17 74),
  (74, gi_k (.int (1)) 75),
  (75, gi_bin (fun a b => a + b) 76),
  (76, gi_puti 4 17 79),
  (79, gi_ld gx_isR 0 80),
  (80, gi_k (.int (1)) 81),
  (81, gi_ld gx_isI 1 82),
  (82, gi_k (.int (65)) 84),
  (84, gi_bin (fun a b => a - b) 85),
  (85, gi_vcall (gx_sel 4 9 4) 2 88),
  (88, gi_ireti),
  (89, gi_ld gx_isI 1 90),
  (90, gi_k (.int (123)) 92),
  (92, gi_cmp (fun x y => ¬ x = y) (fun x y => x = y) 136 95),
  (95, gi_ld gx_isR 0 96),
  (96, gi_ld gx_isR 0 97),
  (97, gi_get 4 17 100),
  (100, gi_k (.int (1)) 101),
  (101, gi_bin (fun a b => a + b) 102),
  (102, gi_vcall (gx_sel 4 7 2) 1 105),
  (105, gi_k (.int (125)) 107),
  (107, gi_cmp (fun x y => ¬ x = y) (fun x y => x = y) 136 110),
  (110, gi_ld gx_isR 0 111),
  (111, gi_get 4 19 114),
  (114, gi_k (.int (6)) 116),
  (116, gi_cmp (fun x y => ¬ x < y) (fun x y => x < y) 136 119),
  (119, gi_ld gx_isR 0 120),
  (120, gi_ld gx_isR 0 121),
  (121, gi_get 4 17 124),
  (124, gi_k (.int (2)) 125),
  (125, gi_bin (fun a b => a + b) 126),
  (126, gi_puti 4 17 129),
  (129, gi_ld gx_isR 0 130),
  (130, gi_k (.int (2)) 131),
  (131, gi_k (.int (0)) 132),
  (132, gi_vcall (gx_sel 4 9 4) 2 135),
  (135, gi_ireti),
  (136, gi_ld gx_isI 1 137),
  (137, gi_k (.int (91)) 139),
  (139, gi_cmp (fun x y => ¬ x = y) (fun x y => x = y) 241 142),
  (142, gi_ld gx_isR 0 143),
  (143, gi_ld gx_isR 0 144),
  (144, gi_get 4 17 147),
  (147, gi_k (.int (1)) 148),
  (148, gi_bin (fun a b => a + b) 149),
  (149, gi_vcall (gx_sel 4 7 2) 1 152),
  (152, gi_call 8 1 1 155),
  (155, gi_if (fun x => x = 0) (fun x => ¬ x = 0) 241 158),
  (158, gi_ld gx_isR 0 159),
  (159, gi_ld gx_isR 0 160),
  (160, gi_get 4 17 163),
  (163, gi_k (.int (2)) 164),
  (164, gi_bin (fun a b => a + b) 165),
  (165, gi_vcall (gx_sel 4 7 2) 1 168),
  (168, gi_k (.int (45)) 170),
  (170, gi_cmp (fun x y => ¬ x = y) (fun x y => x = y) 241 173),
  (173, gi_ld gx_isR 0 174),
  (174, gi_ld gx_isR 0 175),
  (175, gi_get 4 17 178),
  (178, gi_k (.int (3)) 179),
  (179, gi_bin (fun a b => a + b) 180),
  (180, gi_vcall (gx_sel 4 7 2) 1 183),
  (183, gi_call 8 1 1 186),
  (186, gi_if (fun x => x = 0) (fun x => ¬ x = 0) 241 189),
  (189, gi_ld gx_isR 0 190),
  (190, gi_ld gx_isR 0 191),
  (191, gi_get 4 17 194),
  (194, gi_k (.int (4)) 195),
  (195, gi_bin (fun a b => a + b) 196),
  (196, gi_vcall (gx_sel 4 7 2) 1 199),
  (199, gi_k (.int (93)) 201),
  (201, gi_cmp (fun x y => ¬ x = y) (fun x y => x = y) 241 204),
  (204, gi_ld gx_isR 0 205),
  (205, gi_ld gx_isR 0 206),
  (206, gi_ld gx_isR 0 207),
  (207, gi_get 4 17 210),
  (210, gi_k (.int (1)) 211),
  (211, gi_bin (fun a b => a + b) 212),
  (212, gi_vcall (gx_sel 4 7 2) 1 215),
  (215, gi_ld gx_isR 0 216),
  (216, gi_ld gx_isR 0 217),
  (217, gi_get 4 17 220),
  (220, gi_k (.int (3)) 221),
  (221, gi_bin (fun a b => a + b) 222),
  (222, gi_vcall (gx_sel 4 7 2) 1 225),
  (225, gi_vcall (gx_sel 4 13 4) 2 228),
  (228, gi_st gx_isI 2 229),
  (229, gi_ld gx_isR 0 230),
  (230, gi_ld gx_isR 0 231),
  (231, gi_get 4 17 234),
  (234, gi_k (.int (5)) 235),
  (235, gi_bin (fun a b => a + b) 236),
  (236, gi_puti 4 17 239),
  (239, gi_ld gx_isI 2 240),
  (240, gi_ireti),
  (241, gi_k (.int (-1)) 242),
  (242, gi_ireti)]
def gm_b15 : List (Nat × gx_T) := [(0, gi_ld gx_isI 1 1),
  (1, gi_st gx_isI 2 2),
  (2, gi_ld gx_isR 0 3),
  (3, gi_ld gx_isR 0 4),
  (4, gi_get 4 17 7),
  (7, gi_vcall (gx_sel 4 7 2) 1 10),
  (10, gi_st gx_isI 3 11),
  (11, gi_ld gx_isI 3 12),
  (12, gi_k (.int (42)) 14),
  (14, gi_cmp (fun x y => x = y) (fun x y => ¬ x = y) 29 17),
  (17, gi_ld gx_isI 3 18),
  (18, gi_k (.int (43)) 20),
  (20, gi_cmp (fun x y => x = y) (fun x y => ¬ x = y) 29 23),
  (23, gi_ld gx_isI 3 24),
  (24, gi_k (.int (63)) 26),
  (26, gi_cmp (fun x y => ¬ x = y) (fun x y => x = y) 67 29),
  (29, gi_ld gx_isR 0 30),
  (30, gi_ld gx_isI 3 31),
  (31, gi_k (.int (42)) 33),
  (33, gi_cmp (fun x y => ¬ x = y) (fun x y => x = y) 40 36),
  (36, gi_k (.int (4)) 37),
  (37, gi_goto 52),
  (40, gi_ld gx_isI 3 41),
  (41, gi_k (.int (43)) 43),
  (43, gi_cmp (fun x y => ¬ x = y) (fun x y => x = y) 50 46),
  (46, gi_k (.int (5)) 47),
  (47, gi_goto 52),
  (50, gi_k (.int (6)) 52),
  (52, gi_ld gx_isI 2 53),
  (53, gi_vcall (gx_sel 4 9 4) 2 56),
  (56, gi_st gx_isI 2 57),
  (57, gi_ld gx_isR 0 58),
  (58, gi_dup 59),
  (59, gi_get 4 17 62),
  (62, gi_k (.int (1)) 63),
  (63, gi_bin (fun a b => a + b) 64),
  (64, gi_puti 4 17 67),
  (67, gi_ld gx_isR 0 68),
  (68, gi_get 4 24 71),
  (71, gi_ld gx_isR 0 72),
  (72, gi_get 4 19 75),
  (75, gi_ald 0 76),
  (76, gi_k (.int (1)) 77),
  (77, gi_bin (fun a b => a - b) 78),
  (78, gi_st gx_isI 4 80),
  (80, gi_ld gx_isI 4 82),
  (82, gi_ld gx_isR 0 83),
  (83, gi_get 4 23 86),
  (86, gi_ld gx_isR 0 87),
  (87, gi_get 4 19 90),
  (90, gi_ald 0 91),
  (91, gi_cmp (fun x y => x < y) (fun x y => ¬ x < y) 125 94),
  (94, gi_ld gx_isR 0 95),
  (95, gi_ld gx_isR 0 96),
  (96, gi_get 4 1 99),
  (99, gi_ld gx_isI 4 101),
  (101, gi_ald 0 102),
  (102, gi_k (.int (38)) 104),
  (104, gi_cmp (fun x y => ¬ x = y) (fun x y => x = y) 112 107),
  (107, gi_k (.int (7)) 109),
  (109, gi_goto 114),
  (112, gi_k (.int (8)) 114),
  (114, gi_ld gx_isI 2 115),
  (115, gi_vcall (gx_sel 4 9 4) 2 118),
  (118, gi_st gx_isI 2 119),
  (119, gi_inc 4 (Int32.ofInt (-1)) 122),
  (122, gi_goto 80),
  (125, gi_ld gx_isR 0 126),
  (126, gi_ld gx_isR 0 127),
  (127, gi_get 4 21 130),
  (130, gi_ld gx_isR 0 131),
  (131, gi_get 4 19 134),
  (134, gi_ald 0 135),
  (135, gi_ld gx_isI 2 136),
  (136, gi_vcall (gx_sel 4 10 3) 2 139),
  (139, gi_ret)]
def gm_b16 : List (Nat × gx_T) := [(0, gi_ld gx_isR 0 1),
  (1, gi_get 4 19 4),
  (4, gi_if (fun x => ¬ 0 < x) (fun x => 0 < x) 102 7),
  (7, gi_ld gx_isR 0 8),
  (8, gi_ld gx_isR 0 9),
  (9, gi_get 4 17 12),
  (12, gi_vcall (gx_sel 4 7 2) 1 15),
  (15, gi_ld gx_isR 0 16),
  (16, gi_get 4 22 19),
  (19, gi_ld gx_isR 0 20),
  (20, gi_get 4 19 23),
  (23, gi_ald 0 24),
  (24, gi_k (.int (40)) 26),
  (26, gi_cmp (fun x y => ¬ x = y) (fun x y => x = y) 34 29),
  (29, gi_k (.int (41)) 31),
  (31, gi_goto 36),
  (34, gi_k (.int (125)) 36),
  (36, gi_cmp (fun x y => ¬ x = y) (fun x y => x = y) 102 39),
  (39, gi_ld gx_isR 0 40),
  (40, gi_get 4 20 43),
  (43, gi_ld gx_isR 0 44),
  (44, gi_get 4 19 47),
  (47, gi_ald 0 48),
  (48, gi_st gx_isI 1 49),
  (49, gi_ld gx_isR 0 50),
  (50, gi_get 4 22 53),
  (53, gi_ld gx_isR 0 54),
  (54, gi_get 4 19 57),
  (57, gi_ald 0 58),
  (58, gi_k (.int (123)) 60),
  (60, gi_cmp (fun x y => ¬ x = y) (fun x y => x = y) 72 63),
  (63, gi_ld gx_isR 0 64),
  (64, gi_k (.int (3)) 65),
  (65, gi_ld gx_isI 1 66),
  (66, gi_vcall (gx_sel 4 9 4) 2 69),
  (69, gi_goto 73),
  (72, gi_ld gx_isI 1 73),
  (73, gi_st gx_isI 1 74),
  (74, gi_ld gx_isR 0 75),
  (75, gi_dup 76),
  (76, gi_get 4 17 79),
  (79, gi_k (.int (1)) 80),
  (80, gi_bin (fun a b => a + b) 81),
  (81, gi_puti 4 17 84),
  (84, gi_ld gx_isR 0 85),
  (85, gi_dup 86),
  (86, gi_get 4 19 89),
  (89, gi_k (.int (1)) 90),
  (90, gi_bin (fun a b => a - b) 91),
  (91, gi_puti 4 19 94),
  (94, gi_ld gx_isR 0 95),
  (95, gi_ld gx_isI 1 96),
  (96, gi_vcall (gx_sel 4 15 5) 1 99),
  (99, gi_goto 0),
  (102, gi_ret)]
def gm_b17 : List (Nat × gx_T) := [(0, gi_ld gx_isR 0 1),
  (1, gi_get 4 23 4),
  (4, gi_ld gx_isR 0 5),
  (5, gi_get 4 19 8),
  (8, gi_ld gx_isR 0 9),
  (9, gi_get 4 17 12),
  (12, gi_ast 0 (fun z => z) 13),
  (13, gi_ld gx_isR 0 14),
  (14, gi_ld gx_isR 0 15),
  (15, gi_get 4 17 18),
  (18, gi_vcall (gx_sel 4 7 2) 1 21),
  (21, gi_k (.int (38)) 23),
  (23, gi_cmp (fun x y => x = y) (fun x y => ¬ x = y) 39 26),
  (26, gi_ld gx_isR 0 27),
  (27, gi_ld gx_isR 0 28),
  (28, gi_get 4 17 31),
  (31, gi_vcall (gx_sel 4 7 2) 1 34),
  (34, gi_k (.int (33)) 36),
  (36, gi_cmp (fun x y => ¬ x = y) (fun x y => x = y) 52 39),
  (39, gi_ld gx_isR 0 40),
  (40, gi_dup 41),
  (41, gi_get 4 17 44),
  (44, gi_k (.int (1)) 45),
  (45, gi_bin (fun a b => a + b) 46),
  (46, gi_puti 4 17 49),
  (49, gi_goto 13),
  (52, gi_ld gx_isR 0 53),
  (53, gi_get 4 24 56),
  (56, gi_ld gx_isR 0 57),
  (57, gi_get 4 19 60),
  (60, gi_ld gx_isR 0 61),
  (61, gi_get 4 17 64),
  (64, gi_ast 0 (fun z => z) 65),
  (65, gi_ld gx_isR 0 66),
  (66, gi_ld gx_isR 0 67),
  (67, gi_get 4 17 70),
  (70, gi_vcall (gx_sel 4 7 2) 1 73),
  (73, gi_st gx_isI 1 74),
  (74, gi_ld gx_isI 1 75),
  (75, gi_k (.int (123)) 77),
  (77, gi_cmp (fun x y => ¬ x = y) (fun x y => x = y) 99 80),
  (80, gi_ld gx_isR 0 81),
  (81, gi_ld gx_isR 0 82),
  (82, gi_get 4 17 85),
  (85, gi_k (.int (1)) 86),
  (86, gi_bin (fun a b => a + b) 87),
  (87, gi_vcall (gx_sel 4 7 2) 1 90),
  (90, gi_k (.int (125)) 92),
  (92, gi_cmp (fun x y => ¬ x = y) (fun x y => x = y) 99 95),
  (95, gi_k (.int (1)) 96),
  (96, gi_goto 100),
  (99, gi_k (.int (0)) 100),
  (100, gi_st gx_isI 2 101),
  (101, gi_ld gx_isI 1 102),
  (102, gi_k (.int (40)) 104),
  (104, gi_cmp (fun x y => x = y) (fun x y => ¬ x = y) 113 107),
  (107, gi_ld gx_isI 1 108),
  (108, gi_k (.int (123)) 110),
  (110, gi_cmp (fun x y => ¬ x = y) (fun x y => x = y) 158 113),
  (113, gi_ld gx_isI 2 114),
  (114, gi_if (fun x => ¬ x = 0) (fun x => x = 0) 158 117),
  (117, gi_ld gx_isR 0 118),
  (118, gi_ld gx_isR 0 119),
  (119, gi_get 4 19 122),
  (122, gi_k (.int (6)) 124),
  (124, gi_cmp (fun x y => x < y) (fun x y => ¬ x < y) 131 127),
  (127, gi_k (.int (1)) 128),
  (128, gi_goto 132),
  (131, gi_k (.int (0)) 132),
  (132, gi_put 4 18 (.boolean) 135),
  (135, gi_ld gx_isR 0 136),
  (136, gi_dup 137),
  (137, gi_get 4 17 140),
  (140, gi_k (.int (1)) 141),
  (141, gi_bin (fun a b => a + b) 142),
  (142, gi_puti 4 17 145),
  (145, gi_ld gx_isR 0 146),
  (146, gi_get 4 18 149),
  (149, gi_if (fun x => ¬ x = 0) (fun x => x = 0) 157 152),
  (152, gi_ld gx_isR 0 153),
  (153, gi_ld gx_isI 1 154),
  (154, gi_vcall (gx_sel 4 12 2) 1 157),
  (157, gi_ret),
  (158, gi_ld gx_isR 0 159),
  (159, gi_vcall (gx_sel 4 14 3) 0 162),
  (162, gi_st gx_isI 3 163),
  (163, gi_ld gx_isR 0 164),
  (164, gi_ld gx_isI 3 165),
  (165, gi_if (fun x => ¬ x < 0) (fun x => x < 0) 172 168),
  (168, gi_k (.int (1)) 169),
  (169, gi_goto 173),
  (172, gi_k (.int (0)) 173),
  (173, gi_put 4 18 (.boolean) 176),
  (176, gi_ld gx_isR 0 177),
  (177, gi_get 4 18 180),
  (180, gi_if (fun x => x = 0) (fun x => ¬ x = 0) 184 183),
  (183, gi_ret),
  (184, gi_ld gx_isR 0 185),
  (185, gi_ld gx_isI 3 186),
  (186, gi_vcall (gx_sel 4 15 5) 1 189),
  (189, gi_ld gx_isR 0 190),
  (190, gi_vcall (gx_sel 4 16 2) 0 193),
  (193, gi_ld gx_isR 0 194),
  (194, gi_ld gx_isR 0 195),
  (195, gi_get 4 17 198),
  (198, gi_vcall (gx_sel 4 7 2) 1 201),
  (201, gi_k (.int (47)) 203),
  (203, gi_cmp (fun x y => ¬ x = y) (fun x y => x = y) 240 206),
  (206, gi_ld gx_isR 0 207),
  (207, gi_dup 208),
  (208, gi_get 4 17 211),
  (211, gi_k (.int (1)) 212),
  (212, gi_bin (fun a b => a + b) 213),
  (213, gi_puti 4 17 216),
  (216, gi_ld gx_isR 0 217),
  (217, gi_vcall (gx_sel 4 11 2) 0 220),
  (220, gi_ld gx_isR 0 221),
  (221, gi_ld gx_isR 0 222),
  (222, gi_get 4 17 225),
  (225, gi_ld gx_isR 0 226),
  (226, gi_get 4 2 229),
  (229, gi_cmp (fun x y => x < y) (fun x y => ¬ x < y) 236 232),
  (232, gi_k (.int (1)) 233),
  (233, gi_goto 237),
  (236, gi_k (.int (0)) 237),
  (237, gi_put 4 18 (.boolean) 240),
  (240, gi_ret)]
def gm_b18 : List (Nat × gx_T) := [(0, gi_ld gx_isR 0 1),
  (1, gi_k (.int (0)) 2),
  (2, gi_vcall (gx_sel 4 7 2) 1 5),
  (5, gi_k (.int (65)) 7),
  (7, gi_cmp (fun x y => x < y) (fun x y => ¬ x < y) 38 10),
  (10, gi_ld gx_isR 0 11),
  (11, gi_k (.int (0)) 12),
  (12, gi_vcall (gx_sel 4 7 2) 1 15),
  (15, gi_k (.int (68)) 17),
  (17, gi_cmp (fun x y => y < x) (fun x y => ¬ y < x) 38 20),
  (20, gi_ld gx_isR 0 21),
  (21, gi_k (.int (1)) 22),
  (22, gi_vcall (gx_sel 4 7 2) 1 25),
  (25, gi_k (.int (61)) 27),
  (27, gi_cmp (fun x y => ¬ x = y) (fun x y => x = y) 38 30),
  (30, gi_ld gx_isR 0 31),
  (31, gi_get 4 2 34),
  (34, gi_k (.int (3)) 35),
  (35, gi_cmp (fun x y => ¬ x < y) (fun x y => x < y) 40 38),
  (38, gi_k (.int (0)) 39),
  (39, gi_iret .boolean),
  (40, gi_ld gx_isR 0 41),
  (41, gi_k (.int (2)) 42),
  (42, gi_puti 4 17 45),
  (45, gi_ld gx_isR 0 46),
  (46, gi_k (.int (0)) 47),
  (47, gi_put 4 18 (.boolean) 50),
  (50, gi_ld gx_isR 0 51),
  (51, gi_get 4 8 54),
  (54, gi_k (.int (4)) 55),
  (55, gi_k (.int (0)) 56),
  (56, gi_ast 0 (fun z => z) 57),
  (57, gi_ld gx_isR 0 58),
  (58, gi_k (.int (-1)) 59),
  (59, gi_puti 4 19 62),
  (62, gi_ld gx_isR 0 63),
  (63, gi_k (.int (0)) 64),
  (64, gi_vcall (gx_sel 4 12 2) 1 67),
  (67, gi_ld gx_isR 0 68),
  (68, gi_get 4 18 71),
  (71, gi_if (fun x => ¬ x = 0) (fun x => x = 0) 92 74),
  (74, gi_ld gx_isR 0 75),
  (75, gi_get 4 17 78),
  (78, gi_ld gx_isR 0 79),
  (79, gi_get 4 2 82),
  (82, gi_cmp (fun x y => ¬ x < y) (fun x y => x < y) 92 85),
  (85, gi_ld gx_isR 0 86),
  (86, gi_vcall (gx_sel 4 17 4) 0 89),
  (89, gi_goto 67),
  (92, gi_ld gx_isR 0 93),
  (93, gi_get 4 18 96),
  (96, gi_if (fun x => ¬ x = 0) (fun x => x = 0) 124 99),
  (99, gi_ld gx_isR 0 100),
  (100, gi_get 4 19 103),
  (103, gi_if (fun x => ¬ x = 0) (fun x => x = 0) 124 106),
  (106, gi_ld gx_isR 0 107),
  (107, gi_get 4 10 110),
  (110, gi_ld gx_isR 0 111),
  (111, gi_get 4 21 114),
  (114, gi_k (.int (0)) 115),
  (115, gi_ald 0 116),
  (116, gi_ald 0 117),
  (117, gi_if (fun x => x < 0) (fun x => ¬ x < 0) 124 120),
  (120, gi_k (.int (1)) 121),
  (121, gi_goto 125),
  (124, gi_k (.int (0)) 125),
  (125, gi_iret .boolean)]
def gm_b19 : List (Nat × gx_T) := [(0, gi_ld gx_isR 0 1),
  (1, gi_ld gx_isR 0 2),
  (2, gi_vcall (gx_sel 4 18 1) 0 5),
  (5, gi_if (fun x => x = 0) (fun x => ¬ x = 0) 12 8),
  (8, gi_k (.int (0)) 9),
  (9, gi_goto 13),
  (12, gi_k (.int (1)) 13),
  (13, gi_puti 4 0 16),
  (16, gi_ld gx_isR 0 17),
  (17, gi_get 4 1 20),
  (20, gi_k (.int (0)) 21),
  (21, gi_ald 0 22),
  (22, gi_k (.int (65)) 24),
  (24, gi_bin (fun a b => a - b) 25),
  (25, gi_st gx_isI 1 26),
  (26, gi_ld gx_isR 0 27),
  (27, gi_get 4 0 30),
  (30, gi_if (fun x => ¬ x = 0) (fun x => x = 0) 251 33),
  (33, gi_k (.int (40)) 35),
  (35, gi_ld gx_isI 1 36),
  (36, gi_bin (fun a b => a * b) 37),
  (37, gi_k (.int (160)) 40),
  (40, gi_bin (fun a b => a - b) 41),
  (41, gi_st gx_isI 2 42),
  (42, gi_ld gx_isR 0 43),
  (43, gi_get 4 8 46),
  (46, gi_ld gx_isI 1 47),
  (47, gi_ld gx_isR 0 48),
  (48, gi_get 4 8 51),
  (51, gi_k (.int (4)) 52),
  (52, gi_ald 0 53),
  (53, gi_ast 0 (fun z => z) 54),
  (54, gi_k (.int (160)) 57),
  (57, gi_st gx_isI 3 58),
  (58, gi_ld gx_isI 3 59),
  (59, gi_k (.int (160)) 62),
  (62, gi_ld gx_isR 0 63),
  (63, gi_get 4 8 66),
  (66, gi_k (.int (4)) 67),
  (67, gi_ald 0 68),
  (68, gi_bin (fun a b => a + b) 69),
  (69, gi_cmp (fun x y => ¬ x < y) (fun x y => x < y) 201 72),
  (72, gi_ld gx_isR 0 73),
  (73, gi_get 4 9 76),
  (76, gi_ld gx_isI 3 77),
  (77, gi_ald 0 78),
  (78, gi_if (fun x => x = 0) (fun x => ¬ x = 0) 101 81),
  (81, gi_ld gx_isR 0 82),
  (82, gi_get 4 9 85),
  (85, gi_ld gx_isI 3 86),
  (86, gi_ald 0 87),
  (87, gi_k (.int (1)) 88),
  (88, gi_cmp (fun x y => x = y) (fun x y => ¬ x = y) 101 91),
  (91, gi_ld gx_isR 0 92),
  (92, gi_get 4 9 95),
  (95, gi_ld gx_isI 3 96),
  (96, gi_ald 0 97),
  (97, gi_k (.int (2)) 98),
  (98, gi_cmp (fun x y => ¬ x = y) (fun x y => x = y) 105 101),
  (101, gi_k (.int (1)) 102),
  (102, gi_goto 106),
  (105, gi_k (.int (0)) 106),
  (106, gi_st gx_isI 4 108),
  (108, gi_ld gx_isR 0 109),
  (109, gi_get 4 9 112),
  (112, gi_ld gx_isI 3 113),
  (113, gi_ld gx_isI 2 114),
  (114, gi_bin (fun a b => a + b) 115),
  (115, gi_ld gx_isR 0 116),
  (116, gi_get 4 9 119),
  (119, gi_ld gx_isI 3 120),
  (120, gi_ald 0 121),
  (121, gi_ast 0 (fun z => z) 122),
  (122, gi_ld gx_isR 0 123),
  (123, gi_get 4 10 126),
  (126, gi_ld gx_isI 3 127),
  (127, gi_ld gx_isI 2 128),
  (128, gi_bin (fun a b => a + b) 129),
  (129, gi_ld gx_isI 4 131),
  (131, gi_if (fun x => x = 0) (fun x => ¬ x = 0) 143 134),
  (134, gi_ld gx_isR 0 135),
  (135, gi_get 4 10 138),
  (138, gi_ld gx_isI 3 139),
  (139, gi_ald 0 140),
  (140, gi_goto 151),
  (143, gi_ld gx_isR 0 144),
  (144, gi_get 4 10 147),
  (147, gi_ld gx_isI 3 148),
  (148, gi_ald 0 149),
  (149, gi_ld gx_isI 2 150),
  (150, gi_bin (fun a b => a + b) 151),
  (151, gi_ast 0 (fun z => z) 152),
  (152, gi_ld gx_isR 0 153),
  (153, gi_get 4 11 156),
  (156, gi_ld gx_isI 3 157),
  (157, gi_ld gx_isI 2 158),
  (158, gi_bin (fun a b => a + b) 159),
  (159, gi_ld gx_isR 0 160),
  (160, gi_get 4 11 163),
  (163, gi_ld gx_isI 3 164),
  (164, gi_ald 0 165),
  (165, gi_ast 0 (fun z => z) 166),
  (166, gi_ld gx_isR 0 167),
  (167, gi_get 4 12 170),
  (170, gi_ld gx_isI 3 171),
  (171, gi_ld gx_isI 2 172),
  (172, gi_bin (fun a b => a + b) 173),
  (173, gi_ld gx_isR 0 174),
  (174, gi_get 4 12 177),
  (177, gi_ld gx_isI 3 178),
  (178, gi_ald 0 179),
  (179, gi_if (fun x => ¬ x < 0) (fun x => x < 0) 186 182),
  (182, gi_k (.int (-1)) 183),
  (183, gi_goto 194),
  (186, gi_ld gx_isR 0 187),
  (187, gi_get 4 12 190),
  (190, gi_ld gx_isI 3 191),
  (191, gi_ald 0 192),
  (192, gi_ld gx_isI 2 193),
  (193, gi_bin (fun a b => a + b) 194),
  (194, gi_ast 0 (fun z => z) 195),
  (195, gi_inc 3 (Int32.ofInt (1)) 198),
  (198, gi_goto 58),
  (201, gi_ld gx_isR 0 202),
  (202, gi_get 4 5 205),
  (205, gi_ld gx_isI 1 206),
  (206, gi_k (.int (1)) 207),
  (207, gi_ast 2 (vp_nar .boolean) 208),
  (208, gi_ld gx_isR 0 209),
  (209, gi_get 4 7 212),
  (212, gi_ld gx_isI 1 213),
  (213, gi_ld gx_isR 0 214),
  (214, gi_get 4 2 217),
  (217, gi_ast 0 (fun z => z) 218),
  (218, gi_k (.int (0)) 219),
  (219, gi_st gx_isI 3 220),
  (220, gi_ld gx_isI 3 221),
  (221, gi_ld gx_isR 0 222),
  (222, gi_get 4 2 225),
  (225, gi_cmp (fun x y => ¬ x < y) (fun x y => x < y) 251 228),
  (228, gi_ld gx_isR 0 229),
  (229, gi_get 4 6 232),
  (232, gi_k (.int (20)) 234),
  (234, gi_ld gx_isI 1 235),
  (235, gi_bin (fun a b => a * b) 236),
  (236, gi_ld gx_isI 3 237),
  (237, gi_bin (fun a b => a + b) 238),
  (238, gi_ld gx_isR 0 239),
  (239, gi_get 4 1 242),
  (242, gi_ld gx_isI 3 243),
  (243, gi_ald 0 244),
  (244, gi_ast 0 (fun z => z) 245),
  (245, gi_inc 3 (Int32.ofInt (1)) 248),
  (248, gi_goto 220),
  (251, gi_ld gx_isR 0 252),
  (252, gi_k (.int (0)) 253),
  (253, gi_puti 4 2 256),
  (256, gi_ld gx_isR 0 257),
  (257, gi_get 4 0 260),
  (260, gi_if (fun x => ¬ x = 0) (fun x => x = 0) 267 263),
  (263, gi_ld gx_isI 1 264),
  (264, gi_goto 268),
  (267, gi_k (.int (0)) 268),
  (268, gi_ireti)]
def gm_b20 : List (Nat × gx_T) := [(0, gi_ld gx_isR 0 1),
  (1, gi_ld gx_isI 1 2),
  (2, gi_call 2 1 1 5),
  (5, gi_if (fun x => x = 0) (fun x => ¬ x = 0) 12 8),
  (8, gi_k (.int (0)) 9),
  (9, gi_goto 13),
  (12, gi_k (.int (1)) 13),
  (13, gi_puti 4 0 16),
  (16, gi_ld gx_isR 0 17),
  (17, gi_get 4 0 20),
  (20, gi_if (fun x => 0 < x) (fun x => ¬ 0 < x) 32 23),
  (23, gi_ld gx_isR 0 24),
  (24, gi_get 4 5 27),
  (27, gi_ld gx_isI 1 28),
  (28, gi_ald 2 29),
  (29, gi_if (fun x => ¬ x = 0) (fun x => x = 0) 34 32),
  (32, gi_k (.int (0)) 33),
  (33, gi_iret .boolean),
  (34, gi_ld gx_isR 0 35),
  (35, gi_get 4 5 38),
  (38, gi_ld gx_isI 1 39),
  (39, gi_k (.int (0)) 40),
  (40, gi_ast 2 (vp_nar .boolean) 41),
  (41, gi_k (.int (1)) 42),
  (42, gi_iret .boolean)]
def gm_b21 : List (Nat × gx_T) := [(0, gi_ld gx_isR 0 1),
  (1, gi_k (.int (0)) 2),
  (2, gi_puti 4 0 5),
  (5, gi_ld gx_isI 1 6),
  (6, gi_call 2 1 1 9),
  (9, gi_if (fun x => x = 0) (fun x => ¬ x = 0) 50 12),
  (12, gi_ld gx_isR 0 13),
  (13, gi_get 4 5 16),
  (16, gi_ld gx_isI 1 17),
  (17, gi_ald 2 18),
  (18, gi_if (fun x => x = 0) (fun x => ¬ x = 0) 50 21),
  (21, gi_ld gx_isI 2 22),
  (22, gi_if (fun x => x < 0) (fun x => ¬ x < 0) 50 25),
  (25, gi_ld gx_isI 2 26),
  (26, gi_ld gx_isR 0 27),
  (27, gi_get 4 7 30),
  (30, gi_ld gx_isI 1 31),
  (31, gi_ald 0 32),
  (32, gi_cmp (fun x y => ¬ x < y) (fun x y => x < y) 50 35),
  (35, gi_ld gx_isR 0 36),
  (36, gi_get 4 6 39),
  (39, gi_k (.int (20)) 41),
  (41, gi_ld gx_isI 1 42),
  (42, gi_bin (fun a b => a * b) 43),
  (43, gi_ld gx_isI 2 44),
  (44, gi_bin (fun a b => a + b) 45),
  (45, gi_ald 0 46),
  (46, gi_un (fun a => (a.toUInt32 % 65536).toInt32) 47),
  (47, gi_goto 51),
  (50, gi_k (.int (0)) 51),
  (51, gi_iret .char)]
def gm_b22 : List (Nat × gx_T) := [(0, gi_ld gx_isI 1 1),
  (1, gi_k (.int (160)) 4),
  (4, gi_cmp (fun x y => ¬ x < y) (fun x y => x < y) 39 7),
  (7, gi_ld gx_isR 0 8),
  (8, gi_get 4 5 11),
  (11, gi_ld gx_isI 1 12),
  (12, gi_k (.int (40)) 14),
  (14, gi_div (fun a b => a / b) 15),
  (15, gi_ald 2 16),
  (16, gi_if (fun x => x = 0) (fun x => ¬ x = 0) 39 19),
  (19, gi_ld gx_isI 1 20),
  (20, gi_k (.int (40)) 22),
  (22, gi_div (fun a b => a - a / b * b) 23),
  (23, gi_ld gx_isR 0 24),
  (24, gi_get 4 8 27),
  (27, gi_ld gx_isI 1 28),
  (28, gi_k (.int (40)) 30),
  (30, gi_div (fun a b => a / b) 31),
  (31, gi_ald 0 32),
  (32, gi_cmp (fun x y => ¬ x < y) (fun x y => x < y) 39 35),
  (35, gi_k (.int (1)) 36),
  (36, gi_goto 40),
  (39, gi_k (.int (0)) 40),
  (40, gi_iret .boolean)]
def gm_b23 : List (Nat × gx_T) := [(0, gi_ld gx_isR 0 1),
  (1, gi_get 4 9 4),
  (4, gi_ld gx_isI 1 5),
  (5, gi_ald 0 6),
  (6, gi_st gx_isI 2 7),
  (7, gi_ld gx_isI 2 8),
  (8, gi_if (fun x => ¬ x = 0) (fun x => x = 0) 13 11),
  (11, gi_k (.int (0)) 12),
  (12, gi_iret .boolean),
  (13, gi_ld gx_isI 2 14),
  (14, gi_k (.int (1)) 15),
  (15, gi_cmp (fun x y => ¬ x = y) (fun x y => x = y) 55 18),
  (18, gi_ld gx_isR 0 19),
  (19, gi_get 4 5 22),
  (22, gi_ld gx_isR 0 23),
  (23, gi_get 4 10 26),
  (26, gi_ld gx_isI 1 27),
  (27, gi_ald 0 28),
  (28, gi_ald 2 29),
  (29, gi_if (fun x => x = 0) (fun x => ¬ x = 0) 53 32),
  (32, gi_ld gx_isR 0 33),
  (33, gi_get 4 14 36),
  (36, gi_k (.int (40)) 38),
  (38, gi_ld gx_isR 0 39),
  (39, gi_get 4 10 42),
  (42, gi_ld gx_isI 1 43),
  (43, gi_ald 0 44),
  (44, gi_bin (fun a b => a * b) 45),
  (45, gi_ald 2 46),
  (46, gi_if (fun x => x = 0) (fun x => ¬ x = 0) 53 49),
  (49, gi_k (.int (1)) 50),
  (50, gi_goto 54),
  (53, gi_k (.int (0)) 54),
  (54, gi_iret .boolean),
  (55, gi_ld gx_isI 2 56),
  (56, gi_k (.int (3)) 57),
  (57, gi_cmp (fun x y => x = y) (fun x y => ¬ x = y) 65 60),
  (60, gi_ld gx_isI 2 61),
  (61, gi_k (.int (5)) 62),
  (62, gi_cmp (fun x y => ¬ x = y) (fun x y => x = y) 77 65),
  (65, gi_ld gx_isR 0 66),
  (66, gi_get 4 14 69),
  (69, gi_ld gx_isR 0 70),
  (70, gi_get 4 10 73),
  (73, gi_ld gx_isI 1 74),
  (74, gi_ald 0 75),
  (75, gi_ald 2 76),
  (76, gi_iret .boolean),
  (77, gi_ld gx_isI 2 78),
  (78, gi_k (.int (9)) 80),
  (80, gi_cmp (fun x y => ¬ x = y) (fun x y => x = y) 132 83),
  (83, gi_k (.int (1)) 84),
  (84, gi_st gx_isI 3 85),
  (85, gi_ld gx_isR 0 86),
  (86, gi_get 4 10 89),
  (89, gi_ld gx_isI 1 90),
  (90, gi_ald 0 91),
  (91, gi_st gx_isI 4 93),
  (93, gi_ld gx_isI 4 95),
  (95, gi_if (fun x => x < 0) (fun x => ¬ x < 0) 130 98),
  (98, gi_ld gx_isI 3 99),
  (99, gi_if (fun x => x = 0) (fun x => ¬ x = 0) 116 102),
  (102, gi_ld gx_isR 0 103),
  (103, gi_get 4 14 106),
  (106, gi_ld gx_isI 4 108),
  (108, gi_ald 2 109),
  (109, gi_if (fun x => x = 0) (fun x => ¬ x = 0) 116 112),
  (112, gi_k (.int (1)) 113),
  (113, gi_goto 117),
  (116, gi_k (.int (0)) 117),
  (117, gi_st gx_isI 3 118),
  (118, gi_ld gx_isR 0 119),
  (119, gi_get 4 12 122),
  (122, gi_ld gx_isI 4 124),
  (124, gi_ald 0 125),
  (125, gi_st gx_isI 4 127),
  (127, gi_goto 93),
  (130, gi_ld gx_isI 3 131),
  (131, gi_iret .boolean),
  (132, gi_ld gx_isI 2 133),
  (133, gi_k (.int (10)) 135),
  (135, gi_cmp (fun x y => x = y) (fun x y => ¬ x = y) 142 138),
  (138, gi_k (.int (1)) 139),
  (139, gi_goto 143),
  (142, gi_k (.int (0)) 143),
  (143, gi_st gx_isI 3 144),
  (144, gi_ld gx_isR 0 145),
  (145, gi_get 4 10 148),
  (148, gi_ld gx_isI 1 149),
  (149, gi_ald 0 150),
  (150, gi_st gx_isI 4 152),
  (152, gi_ld gx_isI 4 154),
  (154, gi_if (fun x => x < 0) (fun x => ¬ x < 0) 195 157),
  (157, gi_ld gx_isI 2 158),
  (158, gi_k (.int (10)) 160),
  (160, gi_cmp (fun x y => ¬ x = y) (fun x y => x = y) 195 163),
  (163, gi_ld gx_isI 3 164),
  (164, gi_if (fun x => ¬ x = 0) (fun x => x = 0) 177 167),
  (167, gi_ld gx_isR 0 168),
  (168, gi_get 4 14 171),
  (171, gi_ld gx_isI 4 173),
  (173, gi_ald 2 174),
  (174, gi_if (fun x => x = 0) (fun x => ¬ x = 0) 181 177),
  (177, gi_k (.int (1)) 178),
  (178, gi_goto 182),
  (181, gi_k (.int (0)) 182),
  (182, gi_st gx_isI 3 183),
  (183, gi_ld gx_isR 0 184),
  (184, gi_get 4 12 187),
  (187, gi_ld gx_isI 4 189),
  (189, gi_ald 0 190),
  (190, gi_st gx_isI 4 192),
  (192, gi_goto 152),
  (195, gi_ld gx_isI 3 196),
  (196, gi_iret .boolean)]
def gm_b24 : List (Nat × gx_T) := [(0, gi_ld gx_isR 0 1),
  (1, gi_get 4 9 4),
  (4, gi_ld gx_isI 1 5),
  (5, gi_ald 0 6),
  (6, gi_st gx_isI 2 7),
  (7, gi_ld gx_isI 2 8),
  (8, gi_if (fun x => x = 0) (fun x => ¬ x = 0) 16 11),
  (11, gi_ld gx_isI 2 12),
  (12, gi_k (.int (2)) 13),
  (13, gi_cmp (fun x y => ¬ x = y) (fun x y => x = y) 18 16),
  (16, gi_k (.int (0)) 17),
  (17, gi_ireti),
  (18, gi_ld gx_isI 2 19),
  (19, gi_k (.int (1)) 20),
  (20, gi_cmp (fun x y => ¬ x = y) (fun x y => x = y) 32 23),
  (23, gi_k (.int (1)) 24),
  (24, gi_ld gx_isR 0 25),
  (25, gi_get 4 10 28),
  (28, gi_ld gx_isI 1 29),
  (29, gi_ald 0 30),
  (30, gi_bin (fun a b => a <<< (b &&& 31)) 31),
  (31, gi_ireti),
  (32, gi_ld gx_isI 2 33),
  (33, gi_k (.int (9)) 35),
  (35, gi_cmp (fun x y => ¬ x < y) (fun x y => x < y) 50 38),
  (38, gi_ld gx_isR 0 39),
  (39, gi_get 4 15 42),
  (42, gi_ld gx_isR 0 43),
  (43, gi_get 4 10 46),
  (46, gi_ld gx_isI 1 47),
  (47, gi_ald 0 48),
  (48, gi_ald 0 49),
  (49, gi_ireti),
  (50, gi_k (.int (0)) 51),
  (51, gi_st gx_isI 3 52),
  (52, gi_k (.int (1)) 53),
  (53, gi_st gx_isI 4 55),
  (55, gi_ld gx_isR 0 56),
  (56, gi_get 4 10 59),
  (59, gi_ld gx_isI 1 60),
  (60, gi_ald 0 61),
  (61, gi_st gx_isI 5 63),
  (63, gi_ld gx_isI 5 65),
  (65, gi_if (fun x => x < 0) (fun x => ¬ x < 0) 118 68),
  (68, gi_ld gx_isI 4 70),
  (70, gi_if (fun x => x = 0) (fun x => ¬ x = 0) 118 73),
  (73, gi_ld gx_isI 3 74),
  (74, gi_ld gx_isR 0 75),
  (75, gi_get 4 15 78),
  (78, gi_ld gx_isI 5 80),
  (80, gi_ald 0 81),
  (81, gi_bin (fun a b => a ||| b) 82),
  (82, gi_st gx_isI 3 83),
  (83, gi_ld gx_isI 2 84),
  (84, gi_k (.int (10)) 86),
  (86, gi_cmp (fun x y => x = y) (fun x y => ¬ x = y) 99 89),
  (89, gi_ld gx_isR 0 90),
  (90, gi_get 4 14 93),
  (93, gi_ld gx_isI 5 95),
  (95, gi_ald 2 96),
  (96, gi_if (fun x => x = 0) (fun x => ¬ x = 0) 103 99),
  (99, gi_k (.int (1)) 100),
  (100, gi_goto 104),
  (103, gi_k (.int (0)) 104),
  (104, gi_st gx_isI 4 106),
  (106, gi_ld gx_isR 0 107),
  (107, gi_get 4 12 110),
  (110, gi_ld gx_isI 5 112),
  (112, gi_ald 0 113),
  (113, gi_st gx_isI 5 115),
  (115, gi_goto 63),
  (118, gi_ld gx_isI 3 119),
  (119, gi_ireti)]
def gm_b25 : List (Nat × gx_T) := [(0, gi_k (.int (0)) 1),
  (1, gi_st gx_isI 1 2),
  (2, gi_ld gx_isI 1 3),
  (3, gi_k (.int (200)) 6),
  (6, gi_cmp (fun x y => ¬ x < y) (fun x y => x < y) 29 9),
  (9, gi_ld gx_isR 0 10),
  (10, gi_get 4 14 13),
  (13, gi_ld gx_isI 1 14),
  (14, gi_k (.int (0)) 15),
  (15, gi_ast 2 (vp_nar .boolean) 16),
  (16, gi_ld gx_isR 0 17),
  (17, gi_get 4 15 20),
  (20, gi_ld gx_isI 1 21),
  (21, gi_k (.int (0)) 22),
  (22, gi_ast 0 (fun z => z) 23),
  (23, gi_inc 1 (Int32.ofInt (1)) 26),
  (26, gi_goto 2),
  (29, gi_k (.int (1)) 30),
  (30, gi_st gx_isI 1 31),
  (31, gi_ld gx_isI 1 32),
  (32, gi_if (fun x => x = 0) (fun x => ¬ x = 0) 121 35),
  (35, gi_k (.int (0)) 36),
  (36, gi_st gx_isI 1 37),
  (37, gi_k (.int (159)) 40),
  (40, gi_st gx_isI 2 41),
  (41, gi_ld gx_isI 2 42),
  (42, gi_if (fun x => x < 0) (fun x => ¬ x < 0) 118 45),
  (45, gi_ld gx_isR 0 46),
  (46, gi_ld gx_isI 2 47),
  (47, gi_vcall (gx_sel 4 22 2) 1 50),
  (50, gi_if (fun x => x = 0) (fun x => ¬ x = 0) 112 53),
  (53, gi_ld gx_isR 0 54),
  (54, gi_ld gx_isI 2 55),
  (55, gi_vcall (gx_sel 4 23 5) 1 58),
  (58, gi_st gx_isI 3 59),
  (59, gi_ld gx_isR 0 60),
  (60, gi_ld gx_isI 2 61),
  (61, gi_vcall (gx_sel 4 24 6) 1 64),
  (64, gi_st gx_isI 4 66),
  (66, gi_ld gx_isI 1 67),
  (67, gi_if (fun x => ¬ x = 0) (fun x => x = 0) 91 70),
  (70, gi_ld gx_isI 3 71),
  (71, gi_ld gx_isR 0 72),
  (72, gi_get 4 14 75),
  (75, gi_ld gx_isI 2 76),
  (76, gi_ald 2 77),
  (77, gi_cmp (fun x y => ¬ x = y) (fun x y => x = y) 91 80),
  (80, gi_ld gx_isI 4 82),
  (82, gi_ld gx_isR 0 83),
  (83, gi_get 4 15 86),
  (86, gi_ld gx_isI 2 87),
  (87, gi_ald 0 88),
  (88, gi_cmp (fun x y => x = y) (fun x y => ¬ x = y) 95 91),
  (91, gi_k (.int (1)) 92),
  (92, gi_goto 96),
  (95, gi_k (.int (0)) 96),
  (96, gi_st gx_isI 1 97),
  (97, gi_ld gx_isR 0 98),
  (98, gi_get 4 14 101),
  (101, gi_ld gx_isI 2 102),
  (102, gi_ld gx_isI 3 103),
  (103, gi_ast 2 (vp_nar .boolean) 104),
  (104, gi_ld gx_isR 0 105),
  (105, gi_get 4 15 108),
  (108, gi_ld gx_isI 2 109),
  (109, gi_ld gx_isI 4 111),
  (111, gi_ast 0 (fun z => z) 112),
  (112, gi_inc 2 (Int32.ofInt (-1)) 115),
  (115, gi_goto 41),
  (118, gi_goto 31),
  (121, gi_k (.int (0)) 122),
  (122, gi_st gx_isI 2 123),
  (123, gi_ld gx_isI 2 124),
  (124, gi_k (.int (4)) 125),
  (125, gi_cmp (fun x y => ¬ x < y) (fun x y => x < y) 211 128),
  (128, gi_ld gx_isR 0 129),
  (129, gi_get 4 16 132),
  (132, gi_ld gx_isI 2 133),
  (133, gi_k (.int (0)) 134),
  (134, gi_ast 0 (fun z => z) 135),
  (135, gi_k (.int (40)) 137),
  (137, gi_ld gx_isI 2 138),
  (138, gi_bin (fun a b => a * b) 139),
  (139, gi_st gx_isI 3 140),
  (140, gi_ld gx_isI 3 141),
  (141, gi_k (.int (40)) 143),
  (143, gi_ld gx_isI 2 144),
  (144, gi_bin (fun a b => a * b) 145),
  (145, gi_k (.int (40)) 147),
  (147, gi_bin (fun a b => a + b) 148),
  (148, gi_cmp (fun x y => ¬ x < y) (fun x y => x < y) 205 151),
  (151, gi_ld gx_isR 0 152),
  (152, gi_get 4 16 155),
  (155, gi_ld gx_isI 2 156),
  (156, gi_ld gx_isR 0 157),
  (157, gi_ld gx_isI 3 158),
  (158, gi_vcall (gx_sel 4 22 2) 1 161),
  (161, gi_if (fun x => x = 0) (fun x => ¬ x = 0) 192 164),
  (164, gi_ld gx_isR 0 165),
  (165, gi_get 4 9 168),
  (168, gi_ld gx_isI 3 169),
  (169, gi_ald 0 170),
  (170, gi_k (.int (1)) 171),
  (171, gi_cmp (fun x y => ¬ x = y) (fun x y => x = y) 192 174),
  (174, gi_ld gx_isR 0 175),
  (175, gi_get 4 16 178),
  (178, gi_ld gx_isI 2 179),
  (179, gi_ald 0 180),
  (180, gi_k (.int (1)) 181),
  (181, gi_ld gx_isR 0 182),
  (182, gi_get 4 10 185),
  (185, gi_ld gx_isI 3 186),
  (186, gi_ald 0 187),
  (187, gi_bin (fun a b => a <<< (b &&& 31)) 188),
  (188, gi_bin (fun a b => a ||| b) 189),
  (189, gi_goto 198),
  (192, gi_ld gx_isR 0 193),
  (193, gi_get 4 16 196),
  (196, gi_ld gx_isI 2 197),
  (197, gi_ald 0 198),
  (198, gi_ast 0 (fun z => z) 199),
  (199, gi_inc 3 (Int32.ofInt (1)) 202),
  (202, gi_goto 140),
  (205, gi_inc 2 (Int32.ofInt (1)) 208),
  (208, gi_goto 123),
  (211, gi_ret)]
def gm_b26 : List (Nat × gx_T) := [(0, gi_ld gx_isI 1 1),
  (1, gi_st gx_isI 3 2),
  (2, gi_k (.int (0)) 3),
  (3, gi_st gx_isI 4 5),
  (5, gi_ld gx_isI 4 7),
  (7, gi_k (.int (4)) 8),
  (8, gi_cmp (fun x y => ¬ x < y) (fun x y => x < y) 79 11),
  (11, gi_k (.int (0)) 12),
  (12, gi_st gx_isI 5 14),
  (14, gi_ld gx_isI 5 16),
  (16, gi_k (.int (4)) 17),
  (17, gi_cmp (fun x y => ¬ x < y) (fun x y => x < y) 73 20),
  (20, gi_ld gx_isI 3 21),
  (21, gi_ld gx_isI 5 23),
  (23, gi_bin (fun a b => a >>> (b &&& 31)) 24),
  (24, gi_k (.int (1)) 25),
  (25, gi_bin (fun a b => a &&& b) 26),
  (26, gi_k (.int (1)) 27),
  (27, gi_cmp (fun x y => ¬ x = y) (fun x y => x = y) 67 30),
  (30, gi_ld gx_isR 0 31),
  (31, gi_get 4 5 34),
  (34, gi_ld gx_isI 5 36),
  (36, gi_ald 2 37),
  (37, gi_if (fun x => x = 0) (fun x => ¬ x = 0) 67 40),
  (40, gi_ld gx_isI 3 41),
  (41, gi_ld gx_isI 2 42),
  (42, gi_if (fun x => ¬ x = 0) (fun x => x = 0) 55 45),
  (45, gi_ld gx_isR 0 46),
  (46, gi_get 4 16 49),
  (49, gi_ld gx_isI 5 51),
  (51, gi_ald 0 52),
  (52, gi_goto 65),
  (55, gi_ld gx_isR 0 56),
  (56, gi_get 4 15 59),
  (59, gi_k (.int (40)) 61),
  (61, gi_ld gx_isI 5 63),
  (63, gi_bin (fun a b => a * b) 64),
  (64, gi_ald 0 65),
  (65, gi_bin (fun a b => a ||| b) 66),
  (66, gi_st gx_isI 3 67),
  (67, gi_inc 5 (Int32.ofInt (1)) 70),
  (70, gi_goto 14),
  (73, gi_inc 4 (Int32.ofInt (1)) 76),
  (76, gi_goto 5),
  (79, gi_ld gx_isI 3 80),
  (80, gi_ireti)]
def gm_b27 : List (Nat × gx_T) := [(0, gi_ld gx_isR 0 1),
  (1, gi_vcall (gx_sel 4 25 5) 0 4),
  (4, gi_ld gx_isR 0 5),
  (5, gi_k (.int (1)) 6),
  (6, gi_ld gx_isI 1 7),
  (7, gi_bin (fun a b => a <<< (b &&& 31)) 8),
  (8, gi_k (.int (0)) 9),
  (9, gi_vcall (gx_sel 4 26 6) 2 12),
  (12, gi_st gx_isI 2 13),
  (13, gi_k (.int (0)) 14),
  (14, gi_st gx_isI 3 15),
  (15, gi_k (.int (0)) 16),
  (16, gi_st gx_isI 4 18),
  (18, gi_k (.int (0)) 19),
  (19, gi_st gx_isI 5 21),
  (21, gi_k (.int (0)) 22),
  (22, gi_st gx_isI 6 24),
  (24, gi_ld gx_isI 6 26),
  (26, gi_k (.int (4)) 27),
  (27, gi_cmp (fun x y => ¬ x < y) (fun x y => x < y) 196 30),
  (30, gi_ld gx_isI 2 31),
  (31, gi_ld gx_isI 6 33),
  (33, gi_bin (fun a b => a >>> (b &&& 31)) 34),
  (34, gi_k (.int (1)) 35),
  (35, gi_bin (fun a b => a &&& b) 36),
  (36, gi_k (.int (1)) 37),
  (37, gi_cmp (fun x y => ¬ x = y) (fun x y => x = y) 190 40),
  (40, gi_ld gx_isI 3 41),
  (41, gi_if (fun x => ¬ x = 0) (fun x => x = 0) 54 44),
  (44, gi_ld gx_isR 0 45),
  (45, gi_get 4 5 48),
  (48, gi_ld gx_isI 6 50),
  (50, gi_ald 2 51),
  (51, gi_if (fun x => ¬ x = 0) (fun x => x = 0) 58 54),
  (54, gi_k (.int (1)) 55),
  (55, gi_goto 59),
  (58, gi_k (.int (0)) 59),
  (59, gi_st gx_isI 3 60),
  (60, gi_ld gx_isI 4 62),
  (62, gi_if (fun x => ¬ x = 0) (fun x => x = 0) 99 65),
  (65, gi_ld gx_isR 0 66),
  (66, gi_get 4 5 69),
  (69, gi_ld gx_isI 6 71),
  (71, gi_ald 2 72),
  (72, gi_if (fun x => x = 0) (fun x => ¬ x = 0) 103 75),
  (75, gi_ld gx_isR 0 76),
  (76, gi_ld gx_isR 0 77),
  (77, gi_get 4 15 80),
  (80, gi_k (.int (40)) 82),
  (82, gi_ld gx_isI 6 84),
  (84, gi_bin (fun a b => a * b) 85),
  (85, gi_ald 0 86),
  (86, gi_k (.int (1)) 87),
  (87, gi_vcall (gx_sel 4 26 6) 2 90),
  (90, gi_ld gx_isI 6 92),
  (92, gi_bin (fun a b => a >>> (b &&& 31)) 93),
  (93, gi_k (.int (1)) 94),
  (94, gi_bin (fun a b => a &&& b) 95),
  (95, gi_k (.int (1)) 96),
  (96, gi_cmp (fun x y => ¬ x = y) (fun x y => x = y) 103 99),
  (99, gi_k (.int (1)) 100),
  (100, gi_goto 104),
  (103, gi_k (.int (0)) 104),
  (104, gi_st gx_isI 4 106),
  (106, gi_k (.int (40)) 108),
  (108, gi_ld gx_isI 6 110),
  (110, gi_bin (fun a b => a * b) 111),
  (111, gi_st gx_isI 7 113),
  (113, gi_ld gx_isI 7 115),
  (115, gi_k (.int (40)) 117),
  (117, gi_ld gx_isI 6 119),
  (119, gi_bin (fun a b => a * b) 120),
  (120, gi_k (.int (40)) 122),
  (122, gi_bin (fun a b => a + b) 123),
  (123, gi_cmp (fun x y => ¬ x < y) (fun x y => x < y) 190 126),
  (126, gi_ld gx_isI 5 128),
  (128, gi_if (fun x => ¬ x = 0) (fun x => x = 0) 177 131),
  (131, gi_ld gx_isR 0 132),
  (132, gi_ld gx_isI 7 134),
  (134, gi_vcall (gx_sel 4 22 2) 1 137),
  (137, gi_if (fun x => x = 0) (fun x => ¬ x = 0) 181 140),
  (140, gi_ld gx_isR 0 141),
  (141, gi_get 4 9 144),
  (144, gi_ld gx_isI 7 146),
  (146, gi_ald 0 147),
  (147, gi_k (.int (4)) 148),
  (148, gi_cmp (fun x y => x = y) (fun x y => ¬ x = y) 162 151),
  (151, gi_ld gx_isR 0 152),
  (152, gi_get 4 9 155),
  (155, gi_ld gx_isI 7 157),
  (157, gi_ald 0 158),
  (158, gi_k (.int (5)) 159),
  (159, gi_cmp (fun x y => ¬ x = y) (fun x y => x = y) 181 162),
  (162, gi_ld gx_isR 0 163),
  (163, gi_get 4 14 166),
  (166, gi_ld gx_isR 0 167),
  (167, gi_get 4 10 170),
  (170, gi_ld gx_isI 7 172),
  (172, gi_ald 0 173),
  (173, gi_ald 2 174),
  (174, gi_if (fun x => x = 0) (fun x => ¬ x = 0) 181 177),
  (177, gi_k (.int (1)) 178),
  (178, gi_goto 182),
  (181, gi_k (.int (0)) 182),
  (182, gi_st gx_isI 5 184),
  (184, gi_inc 7 (Int32.ofInt (1)) 187),
  (187, gi_goto 113),
  (190, gi_inc 6 (Int32.ofInt (1)) 193),
  (193, gi_goto 24),
  (196, gi_ld gx_isI 3 197),
  (197, gi_if (fun x => x = 0) (fun x => ¬ x = 0) 204 200),
  (200, gi_k (.int (1)) 201),
  (201, gi_goto 223),
  (204, gi_ld gx_isI 4 206),
  (206, gi_if (fun x => x = 0) (fun x => ¬ x = 0) 213 209),
  (209, gi_k (.int (2)) 210),
  (210, gi_goto 223),
  (213, gi_ld gx_isI 5 215),
  (215, gi_if (fun x => x = 0) (fun x => ¬ x = 0) 222 218),
  (218, gi_k (.int (3)) 219),
  (219, gi_goto 223),
  (222, gi_k (.int (0)) 223),
  (223, gi_ireti)]
def gm_b28 : List (Nat × gx_T) := [(0, gi_ld gx_isR 0 1),
  (1, gi_ld gx_isI 1 2),
  (2, gi_call 2 1 1 5),
  (5, gi_if (fun x => x = 0) (fun x => ¬ x = 0) 12 8),
  (8, gi_k (.int (0)) 9),
  (9, gi_goto 13),
  (12, gi_k (.int (1)) 13),
  (13, gi_puti 4 0 16),
  (16, gi_ld gx_isR 0 17),
  (17, gi_get 4 0 20),
  (20, gi_if (fun x => ¬ 0 < x) (fun x => 0 < x) 27 23),
  (23, gi_k (.int (0)) 24),
  (24, gi_goto 32),
  (27, gi_ld gx_isR 0 28),
  (28, gi_ld gx_isI 1 29),
  (29, gi_vcall (gx_sel 4 27 8) 1 32),
  (32, gi_ireti)]
def gm_b29 : List (Nat × gx_T) := [(0, gi_ld gx_isI 2 1),
  (1, gi_st gx_isI 3 2),
  (2, gi_ld gx_isR 0 3),
  (3, gi_get 4 25 6),
  (6, gi_k (.int (13)) 8),
  (8, gi_ld gx_isI 1 9),
  (9, gi_bin (fun a b => a * b) 10),
  (10, gi_ld gx_isI 3 11),
  (11, gi_bin (fun a b => a + b) 12),
  (12, gi_ald 0 13),
  (13, gi_st gx_isI 4 15),
  (15, gi_ld gx_isI 4 17),
  (17, gi_ld gx_isI 3 18),
  (18, gi_cmp (fun x y => ¬ y < x) (fun x y => y < x) 40 21),
  (21, gi_ld gx_isI 4 23),
  (23, gi_st gx_isI 3 24),
  (24, gi_ld gx_isR 0 25),
  (25, gi_get 4 25 28),
  (28, gi_k (.int (13)) 30),
  (30, gi_ld gx_isI 1 31),
  (31, gi_bin (fun a b => a * b) 32),
  (32, gi_ld gx_isI 3 33),
  (33, gi_bin (fun a b => a + b) 34),
  (34, gi_ald 0 35),
  (35, gi_st gx_isI 4 37),
  (37, gi_goto 15),
  (40, gi_ld gx_isI 4 42),
  (42, gi_k (.int (-2)) 44),
  (44, gi_cmp (fun x y => ¬ x = y) (fun x y => x = y) 52 47),
  (47, gi_k (.int (-2)) 49),
  (49, gi_goto 53),
  (52, gi_ld gx_isI 3 53),
  (53, gi_ireti)]
def gm_b30 : List (Nat × gx_T) := [(0, gi_ld gx_isI 2 1),
  (1, gi_st gx_isI 3 2),
  (2, gi_ld gx_isR 0 3),
  (3, gi_get 4 10 6),
  (6, gi_ld gx_isI 1 7),
  (7, gi_ald 0 8),
  (8, gi_st gx_isI 4 10),
  (10, gi_ld gx_isI 4 12),
  (12, gi_if (fun x => x < 0) (fun x => ¬ x < 0) 46 15),
  (15, gi_ld gx_isR 0 16),
  (16, gi_get 4 25 19),
  (19, gi_k (.int (13)) 21),
  (21, gi_ld gx_isI 4 23),
  (23, gi_bin (fun a b => a * b) 24),
  (24, gi_ld gx_isI 3 25),
  (25, gi_bin (fun a b => a + b) 26),
  (26, gi_ald 0 27),
  (27, gi_st gx_isI 3 28),
  (28, gi_ld gx_isI 3 29),
  (29, gi_if (fun x => ¬ x < 0) (fun x => x < 0) 34 32),
  (32, gi_ld gx_isI 3 33),
  (33, gi_ireti),
  (34, gi_ld gx_isR 0 35),
  (35, gi_get 4 12 38),
  (38, gi_ld gx_isI 4 40),
  (40, gi_ald 0 41),
  (41, gi_st gx_isI 4 43),
  (43, gi_goto 10),
  (46, gi_ld gx_isI 3 47),
  (47, gi_ireti)]
def gm_b31 : List (Nat × gx_T) := [(0, gi_ld gx_isR 0 1),
  (1, gi_get 4 10 4),
  (4, gi_ld gx_isI 1 5),
  (5, gi_ald 0 6),
  (6, gi_st gx_isI 3 7),
  (7, gi_ld gx_isI 3 8),
  (8, gi_if (fun x => x < 0) (fun x => ¬ x < 0) 43 11),
  (11, gi_ld gx_isR 0 12),
  (12, gi_get 4 25 15),
  (15, gi_k (.int (13)) 17),
  (17, gi_ld gx_isI 3 18),
  (18, gi_bin (fun a b => a * b) 19),
  (19, gi_ld gx_isI 2 20),
  (20, gi_bin (fun a b => a + b) 21),
  (21, gi_ald 0 22),
  (22, gi_st gx_isI 4 24),
  (24, gi_ld gx_isI 4 26),
  (26, gi_k (.int (-1)) 27),
  (27, gi_cmp (fun x y => x = y) (fun x y => ¬ x = y) 33 30),
  (30, gi_ld gx_isI 4 32),
  (32, gi_ireti),
  (33, gi_ld gx_isR 0 34),
  (34, gi_get 4 12 37),
  (37, gi_ld gx_isI 3 38),
  (38, gi_ald 0 39),
  (39, gi_st gx_isI 3 40),
  (40, gi_goto 7),
  (43, gi_k (.int (-1)) 44),
  (44, gi_ireti)]
def gm_b32 : List (Nat × gx_T) := [(0, gi_ld gx_isR 0 1),
  (1, gi_get 4 9 4),
  (4, gi_ld gx_isI 1 5),
  (5, gi_ald 0 6),
  (6, gi_st gx_isI 3 7),
  (7, gi_ld gx_isI 3 8),
  (8, gi_if (fun x => ¬ x = 0) (fun x => x = 0) 57 11),
  (11, gi_ld gx_isI 2 12),
  (12, gi_ld gx_isR 0 13),
  (13, gi_get 4 4 16),
  (16, gi_cmp (fun x y => ¬ x < y) (fun x y => x < y) 55 19),
  (19, gi_ld gx_isR 0 20),
  (20, gi_get 4 3 23),
  (23, gi_ld gx_isI 2 24),
  (24, gi_ald 0 25),
  (25, gi_ld gx_isR 0 26),
  (26, gi_get 4 10 29),
  (29, gi_ld gx_isI 1 30),
  (30, gi_ald 0 31),
  (31, gi_cmp (fun x y => x < y) (fun x y => ¬ x < y) 55 34),
  (34, gi_ld gx_isR 0 35),
  (35, gi_get 4 3 38),
  (38, gi_ld gx_isI 2 39),
  (39, gi_ald 0 40),
  (40, gi_ld gx_isR 0 41),
  (41, gi_get 4 11 44),
  (44, gi_ld gx_isI 1 45),
  (45, gi_ald 0 46),
  (46, gi_cmp (fun x y => y < x) (fun x y => ¬ y < x) 55 49),
  (49, gi_ld gx_isI 2 50),
  (50, gi_k (.int (1)) 51),
  (51, gi_bin (fun a b => a + b) 52),
  (52, gi_goto 56),
  (55, gi_k (.int (-1)) 56),
  (56, gi_ireti),
  (57, gi_ld gx_isI 3 58),
  (58, gi_k (.int (2)) 59),
  (59, gi_cmp (fun x y => ¬ x = y) (fun x y => x = y) 64 62),
  (62, gi_ld gx_isI 2 63),
  (63, gi_ireti),
  (64, gi_ld gx_isI 3 65),
  (65, gi_k (.int (1)) 66),
  (66, gi_cmp (fun x y => ¬ x = y) (fun x y => x = y) 106 69),
  (69, gi_ld gx_isR 0 70),
  (70, gi_get 4 5 73),
  (73, gi_ld gx_isR 0 74),
  (74, gi_get 4 10 77),
  (77, gi_ld gx_isI 1 78),
  (78, gi_ald 0 79),
  (79, gi_ald 2 80),
  (80, gi_if (fun x => x = 0) (fun x => ¬ x = 0) 103 83),
  (83, gi_ld gx_isR 0 84),
  (84, gi_get 4 25 87),
  (87, gi_k (.int (520)) 90),
  (90, gi_ld gx_isR 0 91),
  (91, gi_get 4 10 94),
  (94, gi_ld gx_isI 1 95),
  (95, gi_ald 0 96),
  (96, gi_bin (fun a b => a * b) 97),
  (97, gi_ld gx_isI 2 98),
  (98, gi_bin (fun a b => a + b) 99),
  (99, gi_ald 0 100),
  (100, gi_goto 105),
  (103, gi_k (.int (-2)) 105),
  (105, gi_ireti),
  (106, gi_ld gx_isI 3 107),
  (107, gi_k (.int (9)) 109),
  (109, gi_cmp (fun x y => ¬ x = y) (fun x y => x = y) 119 112),
  (112, gi_ld gx_isR 0 113),
  (113, gi_ld gx_isI 1 114),
  (114, gi_ld gx_isI 2 115),
  (115, gi_vcall (gx_sel 4 30 5) 2 118),
  (118, gi_ireti),
  (119, gi_ld gx_isI 3 120),
  (120, gi_k (.int (10)) 122),
  (122, gi_cmp (fun x y => ¬ x = y) (fun x y => x = y) 132 125),
  (125, gi_ld gx_isR 0 126),
  (126, gi_ld gx_isI 1 127),
  (127, gi_ld gx_isI 2 128),
  (128, gi_vcall (gx_sel 4 31 5) 2 131),
  (131, gi_ireti),
  (132, gi_ld gx_isI 3 133),
  (133, gi_k (.int (4)) 134),
  (134, gi_cmp (fun x y => ¬ x = y) (fun x y => x = y) 149 137),
  (137, gi_ld gx_isR 0 138),
  (138, gi_ld gx_isR 0 139),
  (139, gi_get 4 10 142),
  (142, gi_ld gx_isI 1 143),
  (143, gi_ald 0 144),
  (144, gi_ld gx_isI 2 145),
  (145, gi_vcall (gx_sel 4 29 5) 2 148),
  (148, gi_ireti),
  (149, gi_ld gx_isR 0 150),
  (150, gi_get 4 25 153),
  (153, gi_k (.int (13)) 155),
  (155, gi_ld gx_isR 0 156),
  (156, gi_get 4 10 159),
  (159, gi_ld gx_isI 1 160),
  (160, gi_ald 0 161),
  (161, gi_bin (fun a b => a * b) 162),
  (162, gi_ld gx_isI 2 163),
  (163, gi_bin (fun a b => a + b) 164),
  (164, gi_ald 0 165),
  (165, gi_st gx_isI 4 167),
  (167, gi_ld gx_isI 4 169),
  (169, gi_k (.int (-2)) 171),
  (171, gi_cmp (fun x y => x = y) (fun x y => ¬ x = y) 179 174),
  (174, gi_ld gx_isI 3 175),
  (175, gi_k (.int (3)) 176),
  (176, gi_cmp (fun x y => ¬ x = y) (fun x y => x = y) 182 179),
  (179, gi_ld gx_isI 4 181),
  (181, gi_ireti),
  (182, gi_ld gx_isI 3 183),
  (183, gi_k (.int (5)) 184),
  (184, gi_cmp (fun x y => ¬ x = y) (fun x y => x = y) 209 187),
  (187, gi_ld gx_isI 4 189),
  (189, gi_if (fun x => ¬ x < 0) (fun x => x < 0) 196 192),
  (192, gi_k (.int (-1)) 193),
  (193, gi_goto 208),
  (196, gi_ld gx_isR 0 197),
  (197, gi_ld gx_isR 0 198),
  (198, gi_get 4 10 201),
  (201, gi_ld gx_isI 1 202),
  (202, gi_ald 0 203),
  (203, gi_ld gx_isI 4 205),
  (205, gi_vcall (gx_sel 4 29 5) 2 208),
  (208, gi_ireti),
  (209, gi_ld gx_isI 3 210),
  (210, gi_k (.int (6)) 212),
  (212, gi_cmp (fun x y => ¬ x = y) (fun x y => x = y) 227 215),
  (215, gi_ld gx_isI 4 217),
  (217, gi_if (fun x => ¬ x < 0) (fun x => x < 0) 224 220),
  (220, gi_ld gx_isI 2 221),
  (221, gi_goto 226),
  (224, gi_ld gx_isI 4 226),
  (226, gi_ireti),
  (227, gi_ld gx_isI 4 229),
  (229, gi_if (fun x => x < 0) (fun x => ¬ x < 0) 236 232),
  (232, gi_k (.int (1)) 233),
  (233, gi_goto 237),
  (236, gi_k (.int (0)) 237),
  (237, gi_ld gx_isI 3 238),
  (238, gi_k (.int (7)) 240),
  (240, gi_cmp (fun x y => ¬ x = y) (fun x y => x = y) 247 243),
  (243, gi_k (.int (1)) 244),
  (244, gi_goto 248),
  (247, gi_k (.int (0)) 248),
  (248, gi_cmp (fun x y => ¬ x = y) (fun x y => x = y) 255 251),
  (251, gi_ld gx_isI 2 252),
  (252, gi_goto 256),
  (255, gi_k (.int (-1)) 256),
  (256, gi_ireti)]
def gm_b33 : List (Nat × gx_T) := [(0, gi_k (.int (0)) 1),
  (1, gi_st gx_isI 1 2),
  (2, gi_ld gx_isI 1 3),
  (3, gi_k (.int (2600)) 6),
  (6, gi_cmp (fun x y => ¬ x < y) (fun x y => x < y) 23 9),
  (9, gi_ld gx_isR 0 10),
  (10, gi_get 4 25 13),
  (13, gi_ld gx_isI 1 14),
  (14, gi_k (.int (-2)) 16),
  (16, gi_ast 0 (fun z => z) 17),
  (17, gi_inc 1 (Int32.ofInt (1)) 20),
  (20, gi_goto 2),
  (23, gi_k (.int (1)) 24),
  (24, gi_st gx_isI 1 25),
  (25, gi_ld gx_isI 1 26),
  (26, gi_if (fun x => x = 0) (fun x => ¬ x = 0) 130 29),
  (29, gi_k (.int (0)) 30),
  (30, gi_st gx_isI 1 31),
  (31, gi_ld gx_isR 0 32),
  (32, gi_get 4 4 35),
  (35, gi_st gx_isI 2 36),
  (36, gi_ld gx_isI 2 37),
  (37, gi_if (fun x => x < 0) (fun x => ¬ x < 0) 127 40),
  (40, gi_k (.int (159)) 43),
  (43, gi_st gx_isI 3 44),
  (44, gi_ld gx_isI 3 45),
  (45, gi_if (fun x => x < 0) (fun x => ¬ x < 0) 121 48),
  (48, gi_ld gx_isR 0 49),
  (49, gi_ld gx_isI 3 50),
  (50, gi_vcall (gx_sel 4 22 2) 1 53),
  (53, gi_if (fun x => x = 0) (fun x => ¬ x = 0) 115 56),
  (56, gi_ld gx_isR 0 57),
  (57, gi_get 4 25 60),
  (60, gi_k (.int (13)) 62),
  (62, gi_ld gx_isI 3 63),
  (63, gi_bin (fun a b => a * b) 64),
  (64, gi_ld gx_isI 2 65),
  (65, gi_bin (fun a b => a + b) 66),
  (66, gi_ald 0 67),
  (67, gi_k (.int (-2)) 69),
  (69, gi_cmp (fun x y => ¬ x = y) (fun x y => x = y) 115 72),
  (72, gi_ld gx_isR 0 73),
  (73, gi_get 4 25 76),
  (76, gi_k (.int (13)) 78),
  (78, gi_ld gx_isI 3 79),
  (79, gi_bin (fun a b => a * b) 80),
  (80, gi_ld gx_isI 2 81),
  (81, gi_bin (fun a b => a + b) 82),
  (82, gi_ld gx_isR 0 83),
  (83, gi_ld gx_isI 3 84),
  (84, gi_ld gx_isI 2 85),
  (85, gi_vcall (gx_sel 4 32 5) 2 88),
  (88, gi_ast 0 (fun z => z) 89),
  (89, gi_ld gx_isI 1 90),
  (90, gi_if (fun x => ¬ x = 0) (fun x => x = 0) 109 93),
  (93, gi_ld gx_isR 0 94),
  (94, gi_get 4 25 97),
  (97, gi_k (.int (13)) 99),
  (99, gi_ld gx_isI 3 100),
  (100, gi_bin (fun a b => a * b) 101),
  (101, gi_ld gx_isI 2 102),
  (102, gi_bin (fun a b => a + b) 103),
  (103, gi_ald 0 104),
  (104, gi_k (.int (-2)) 106),
  (106, gi_cmp (fun x y => x = y) (fun x y => ¬ x = y) 113 109),
  (109, gi_k (.int (1)) 110),
  (110, gi_goto 114),
  (113, gi_k (.int (0)) 114),
  (114, gi_st gx_isI 1 115),
  (115, gi_inc 3 (Int32.ofInt (-1)) 118),
  (118, gi_goto 44),
  (121, gi_inc 2 (Int32.ofInt (-1)) 124),
  (124, gi_goto 36),
  (127, gi_goto 25),
  (130, gi_ret)]
def gm_b34 : List (Nat × gx_T) := [(0, gi_ld gx_isR 0 1),
  (1, gi_get 4 26 4),
  (4, gi_k (.int (13)) 6),
  (6, gi_ld gx_isI 1 7),
  (7, gi_bin (fun a b => a * b) 8),
  (8, gi_ld gx_isI 2 9),
  (9, gi_bin (fun a b => a + b) 10),
  (10, gi_ald 2 11),
  (11, gi_if (fun x => ¬ x = 0) (fun x => x = 0) 51 14),
  (14, gi_ld gx_isR 0 15),
  (15, gi_get 4 26 18),
  (18, gi_k (.int (13)) 20),
  (20, gi_ld gx_isI 1 21),
  (21, gi_bin (fun a b => a * b) 22),
  (22, gi_ld gx_isI 2 23),
  (23, gi_bin (fun a b => a + b) 24),
  (24, gi_k (.int (1)) 25),
  (25, gi_ast 2 (vp_nar .boolean) 26),
  (26, gi_ld gx_isR 0 27),
  (27, gi_get 4 27 30),
  (30, gi_ld gx_isR 0 31),
  (31, gi_get 4 28 34),
  (34, gi_k (.int (13)) 36),
  (36, gi_ld gx_isI 1 37),
  (37, gi_bin (fun a b => a * b) 38),
  (38, gi_ld gx_isI 2 39),
  (39, gi_bin (fun a b => a + b) 40),
  (40, gi_ast 0 (fun z => z) 41),
  (41, gi_ld gx_isR 0 42),
  (42, gi_dup 43),
  (43, gi_get 4 28 46),
  (46, gi_k (.int (1)) 47),
  (47, gi_bin (fun a b => a + b) 48),
  (48, gi_puti 4 28 51),
  (51, gi_ret)]
def gm_b35 : List (Nat × gx_T) := [(0, gi_ld gx_isR 0 1),
  (1, gi_get 4 29 4),
  (4, gi_k (.int (13)) 6),
  (6, gi_ld gx_isI 1 7),
  (7, gi_bin (fun a b => a * b) 8),
  (8, gi_ld gx_isI 2 9),
  (9, gi_bin (fun a b => a + b) 10),
  (10, gi_ald 2 11),
  (11, gi_if (fun x => ¬ x = 0) (fun x => x = 0) 36 14),
  (14, gi_ld gx_isR 0 15),
  (15, gi_get 4 29 18),
  (18, gi_k (.int (13)) 20),
  (20, gi_ld gx_isI 1 21),
  (21, gi_bin (fun a b => a * b) 22),
  (22, gi_ld gx_isI 2 23),
  (23, gi_bin (fun a b => a + b) 24),
  (24, gi_k (.int (1)) 25),
  (25, gi_ast 2 (vp_nar .boolean) 26),
  (26, gi_ld gx_isR 0 27),
  (27, gi_dup 28),
  (28, gi_get 4 34 31),
  (31, gi_k (.int (1)) 32),
  (32, gi_bin (fun a b => a + b) 33),
  (33, gi_puti 4 34 36),
  (36, gi_ld gx_isR 0 37),
  (37, gi_k (.int (40)) 39),
  (39, gi_ld gx_isI 1 40),
  (40, gi_bin (fun a b => a * b) 41),
  (41, gi_ld gx_isI 2 42),
  (42, gi_vcall (gx_sel 4 34 3) 2 45),
  (45, gi_ret)]
def gm_b36 : List (Nat × gx_T) := [(0, gi_ld gx_isR 0 1),
  (1, gi_get 4 9 4),
  (4, gi_ld gx_isI 1 5),
  (5, gi_ald 0 6),
  (6, gi_st gx_isI 3 7),
  (7, gi_ld gx_isI 3 8),
  (8, gi_if (fun x => ¬ x = 0) (fun x => x = 0) 48 11),
  (11, gi_ld gx_isR 0 12),
  (12, gi_ld gx_isR 0 13),
  (13, gi_get 4 25 16),
  (16, gi_k (.int (13)) 18),
  (18, gi_ld gx_isI 1 19),
  (19, gi_bin (fun a b => a * b) 20),
  (20, gi_ld gx_isI 2 21),
  (21, gi_bin (fun a b => a + b) 22),
  (22, gi_ald 0 23),
  (23, gi_if (fun x => ¬ x < 0) (fun x => x < 0) 38 26),
  (26, gi_ld gx_isI 2 27),
  (27, gi_ld gx_isR 0 28),
  (28, gi_get 4 33 31),
  (31, gi_cmp (fun x y => ¬ y < x) (fun x y => y < x) 38 34),
  (34, gi_ld gx_isI 2 35),
  (35, gi_goto 42),
  (38, gi_ld gx_isR 0 39),
  (39, gi_get 4 33 42),
  (42, gi_puti 4 33 45),
  (45, gi_goto 274),
  (48, gi_ld gx_isI 3 49),
  (49, gi_k (.int (1)) 50),
  (50, gi_cmp (fun x y => ¬ x = y) (fun x y => x = y) 67 53),
  (53, gi_ld gx_isR 0 54),
  (54, gi_ld gx_isR 0 55),
  (55, gi_get 4 10 58),
  (58, gi_ld gx_isI 1 59),
  (59, gi_ald 0 60),
  (60, gi_ld gx_isI 2 61),
  (61, gi_vcall (gx_sel 4 35 3) 2 64),
  (64, gi_goto 274),
  (67, gi_ld gx_isI 3 68),
  (68, gi_k (.int (10)) 70),
  (70, gi_cmp (fun x y => ¬ x = y) (fun x y => x = y) 138 73),
  (73, gi_k (.int (1)) 74),
  (74, gi_st gx_isI 4 76),
  (76, gi_ld gx_isR 0 77),
  (77, gi_get 4 10 80),
  (80, gi_ld gx_isI 1 81),
  (81, gi_ald 0 82),
  (82, gi_st gx_isI 5 84),
  (84, gi_ld gx_isI 5 86),
  (86, gi_if (fun x => x < 0) (fun x => ¬ x < 0) 135 89),
  (89, gi_ld gx_isI 4 91),
  (91, gi_if (fun x => x = 0) (fun x => ¬ x = 0) 135 94),
  (94, gi_ld gx_isR 0 95),
  (95, gi_ld gx_isI 5 97),
  (97, gi_ld gx_isI 2 98),
  (98, gi_vcall (gx_sel 4 34 3) 2 101),
  (101, gi_ld gx_isR 0 102),
  (102, gi_get 4 25 105),
  (105, gi_k (.int (13)) 107),
  (107, gi_ld gx_isI 5 109),
  (109, gi_bin (fun a b => a * b) 110),
  (110, gi_ld gx_isI 2 111),
  (111, gi_bin (fun a b => a + b) 112),
  (112, gi_ald 0 113),
  (113, gi_if (fun x => ¬ x < 0) (fun x => x < 0) 120 116),
  (116, gi_k (.int (1)) 117),
  (117, gi_goto 121),
  (120, gi_k (.int (0)) 121),
  (121, gi_st gx_isI 4 123),
  (123, gi_ld gx_isR 0 124),
  (124, gi_get 4 12 127),
  (127, gi_ld gx_isI 5 129),
  (129, gi_ald 0 130),
  (130, gi_st gx_isI 5 132),
  (132, gi_goto 84),
  (135, gi_goto 274),
  (138, gi_ld gx_isI 3 139),
  (139, gi_k (.int (9)) 141),
  (141, gi_cmp (fun x y => ¬ x = y) (fun x y => x = y) 203 144),
  (144, gi_ld gx_isI 2 145),
  (145, gi_st gx_isI 4 147),
  (147, gi_ld gx_isR 0 148),
  (148, gi_get 4 10 151),
  (151, gi_ld gx_isI 1 152),
  (152, gi_ald 0 153),
  (153, gi_st gx_isI 5 155),
  (155, gi_ld gx_isI 5 157),
  (157, gi_if (fun x => x < 0) (fun x => ¬ x < 0) 200 160),
  (160, gi_ld gx_isI 4 162),
  (162, gi_if (fun x => x < 0) (fun x => ¬ x < 0) 200 165),
  (165, gi_ld gx_isR 0 166),
  (166, gi_ld gx_isI 5 168),
  (168, gi_ld gx_isI 4 170),
  (170, gi_vcall (gx_sel 4 34 3) 2 173),
  (173, gi_ld gx_isR 0 174),
  (174, gi_get 4 25 177),
  (177, gi_k (.int (13)) 179),
  (179, gi_ld gx_isI 5 181),
  (181, gi_bin (fun a b => a * b) 182),
  (182, gi_ld gx_isI 4 184),
  (184, gi_bin (fun a b => a + b) 185),
  (185, gi_ald 0 186),
  (186, gi_st gx_isI 4 188),
  (188, gi_ld gx_isR 0 189),
  (189, gi_get 4 12 192),
  (192, gi_ld gx_isI 5 194),
  (194, gi_ald 0 195),
  (195, gi_st gx_isI 5 197),
  (197, gi_goto 155),
  (200, gi_goto 274),
  (203, gi_ld gx_isI 3 204),
  (204, gi_k (.int (4)) 205),
  (205, gi_cmp (fun x y => x = y) (fun x y => ¬ x = y) 213 208),
  (208, gi_ld gx_isI 3 209),
  (209, gi_k (.int (5)) 210),
  (210, gi_cmp (fun x y => ¬ x = y) (fun x y => x = y) 258 213),
  (213, gi_ld gx_isI 2 214),
  (214, gi_st gx_isI 4 216),
  (216, gi_ld gx_isI 4 218),
  (218, gi_if (fun x => x < 0) (fun x => ¬ x < 0) 255 221),
  (221, gi_ld gx_isR 0 222),
  (222, gi_ld gx_isR 0 223),
  (223, gi_get 4 10 226),
  (226, gi_ld gx_isI 1 227),
  (227, gi_ald 0 228),
  (228, gi_ld gx_isI 4 230),
  (230, gi_vcall (gx_sel 4 34 3) 2 233),
  (233, gi_ld gx_isR 0 234),
  (234, gi_get 4 25 237),
  (237, gi_k (.int (13)) 239),
  (239, gi_ld gx_isR 0 240),
  (240, gi_get 4 10 243),
  (243, gi_ld gx_isI 1 244),
  (244, gi_ald 0 245),
  (245, gi_bin (fun a b => a * b) 246),
  (246, gi_ld gx_isI 4 248),
  (248, gi_bin (fun a b => a + b) 249),
  (249, gi_ald 0 250),
  (250, gi_st gx_isI 4 252),
  (252, gi_goto 216),
  (255, gi_goto 274),
  (258, gi_ld gx_isI 3 259),
  (259, gi_k (.int (2)) 260),
  (260, gi_cmp (fun x y => x = y) (fun x y => ¬ x = y) 274 263),
  (263, gi_ld gx_isR 0 264),
  (264, gi_ld gx_isR 0 265),
  (265, gi_get 4 10 268),
  (268, gi_ld gx_isI 1 269),
  (269, gi_ald 0 270),
  (270, gi_ld gx_isI 2 271),
  (271, gi_vcall (gx_sel 4 34 3) 2 274),
  (274, gi_ret)]
def gm_b37 : List (Nat × gx_T) := [(0, gi_k (.int (0)) 1),
  (1, gi_st gx_isI 3 2),
  (2, gi_ld gx_isI 3 3),
  (3, gi_k (.int (2600)) 6),
  (6, gi_cmp (fun x y => ¬ x < y) (fun x y => x < y) 22 9),
  (9, gi_ld gx_isR 0 10),
  (10, gi_get 4 26 13),
  (13, gi_ld gx_isI 3 14),
  (14, gi_k (.int (0)) 15),
  (15, gi_ast 2 (vp_nar .boolean) 16),
  (16, gi_inc 3 (Int32.ofInt (1)) 19),
  (19, gi_goto 2),
  (22, gi_k (.int (0)) 23),
  (23, gi_st gx_isI 3 24),
  (24, gi_ld gx_isI 3 25),
  (25, gi_k (.int (52)) 27),
  (27, gi_cmp (fun x y => ¬ x < y) (fun x y => x < y) 43 30),
  (30, gi_ld gx_isR 0 31),
  (31, gi_get 4 29 34),
  (34, gi_ld gx_isI 3 35),
  (35, gi_k (.int (0)) 36),
  (36, gi_ast 2 (vp_nar .boolean) 37),
  (37, gi_inc 3 (Int32.ofInt (1)) 40),
  (40, gi_goto 24),
  (43, gi_ld gx_isR 0 44),
  (44, gi_k (.int (-1)) 45),
  (45, gi_puti 4 33 48),
  (48, gi_ld gx_isR 0 49),
  (49, gi_k (.int (0)) 50),
  (50, gi_puti 4 34 53),
  (53, gi_ld gx_isR 0 54),
  (54, gi_k (.int (0)) 55),
  (55, gi_puti 4 28 58),
  (58, gi_ld gx_isR 0 59),
  (59, gi_ld gx_isI 1 60),
  (60, gi_ld gx_isI 2 61),
  (61, gi_vcall (gx_sel 4 35 3) 2 64),
  (64, gi_ld gx_isR 0 65),
  (65, gi_get 4 28 68),
  (68, gi_if (fun x => ¬ 0 < x) (fun x => 0 < x) 106 71),
  (71, gi_ld gx_isR 0 72),
  (72, gi_dup 73),
  (73, gi_get 4 28 76),
  (76, gi_k (.int (1)) 77),
  (77, gi_bin (fun a b => a - b) 78),
  (78, gi_puti 4 28 81),
  (81, gi_ld gx_isR 0 82),
  (82, gi_get 4 27 85),
  (85, gi_ld gx_isR 0 86),
  (86, gi_get 4 28 89),
  (89, gi_ald 0 90),
  (90, gi_st gx_isI 3 91),
  (91, gi_ld gx_isR 0 92),
  (92, gi_ld gx_isI 3 93),
  (93, gi_k (.int (13)) 95),
  (95, gi_div (fun a b => a / b) 96),
  (96, gi_ld gx_isI 3 97),
  (97, gi_k (.int (13)) 99),
  (99, gi_div (fun a b => a - a / b * b) 100),
  (100, gi_vcall (gx_sel 4 36 6) 2 103),
  (103, gi_goto 64),
  (106, gi_ret)]
def gm_b38 : List (Nat × gx_T) := [(0, gi_ld gx_isR 0 1),
  (1, gi_get 4 30 4),
  (4, gi_k (.int (40)) 6),
  (6, gi_cmp (fun x y => ¬ x < y) (fun x y => x < y) 39 9),
  (9, gi_ld gx_isR 0 10),
  (10, gi_get 4 31 13),
  (13, gi_ld gx_isR 0 14),
  (14, gi_get 4 30 17),
  (17, gi_ld gx_isI 1 18),
  (18, gi_ast 0 (fun z => z) 19),
  (19, gi_ld gx_isR 0 20),
  (20, gi_get 4 32 23),
  (23, gi_ld gx_isR 0 24),
  (24, gi_get 4 30 27),
  (27, gi_ld gx_isI 2 28),
  (28, gi_ast 0 (fun z => z) 29),
  (29, gi_ld gx_isR 0 30),
  (30, gi_dup 31),
  (31, gi_get 4 30 34),
  (34, gi_k (.int (1)) 35),
  (35, gi_bin (fun a b => a + b) 36),
  (36, gi_puti 4 30 39),
  (39, gi_ret)]
def gm_b39 : List (Nat × gx_T) := [(0, gi_ld gx_isI 1 1),
  (1, gi_st gx_isI 2 2),
  (2, gi_ld gx_isR 0 3),
  (3, gi_get 4 28 6),
  (6, gi_k (.int (1)) 7),
  (7, gi_bin (fun a b => a - b) 8),
  (8, gi_st gx_isI 3 9),
  (9, gi_ld gx_isI 2 10),
  (10, gi_ld gx_isI 3 11),
  (11, gi_cmp (fun x y => ¬ x < y) (fun x y => x < y) 51 14),
  (14, gi_ld gx_isR 0 15),
  (15, gi_get 4 27 18),
  (18, gi_ld gx_isI 2 19),
  (19, gi_ald 0 20),
  (20, gi_st gx_isI 4 22),
  (22, gi_ld gx_isR 0 23),
  (23, gi_get 4 27 26),
  (26, gi_ld gx_isI 2 27),
  (27, gi_ld gx_isR 0 28),
  (28, gi_get 4 27 31),
  (31, gi_ld gx_isI 3 32),
  (32, gi_ald 0 33),
  (33, gi_ast 0 (fun z => z) 34),
  (34, gi_ld gx_isR 0 35),
  (35, gi_get 4 27 38),
  (38, gi_ld gx_isI 3 39),
  (39, gi_ld gx_isI 4 41),
  (41, gi_ast 0 (fun z => z) 42),
  (42, gi_inc 2 (Int32.ofInt (1)) 45),
  (45, gi_inc 3 (Int32.ofInt (-1)) 48),
  (48, gi_goto 9),
  (51, gi_ret)]
def gm_b40 : List (Nat × gx_T) := [(0, gi_ld gx_isR 0 1),
  (1, gi_get 4 27 4),
  (4, gi_ld gx_isR 0 5),
  (5, gi_get 4 28 8),
  (8, gi_k (.int (13)) 10),
  (10, gi_ld gx_isI 1 11),
  (11, gi_bin (fun a b => a * b) 12),
  (12, gi_ld gx_isI 2 13),
  (13, gi_bin (fun a b => a + b) 14),
  (14, gi_ast 0 (fun z => z) 15),
  (15, gi_ld gx_isR 0 16),
  (16, gi_dup 17),
  (17, gi_get 4 28 20),
  (20, gi_k (.int (1)) 21),
  (21, gi_bin (fun a b => a + b) 22),
  (22, gi_puti 4 28 25),
  (25, gi_ret)]
def gm_b41 : List (Nat × gx_T) := [(0, gi_ld gx_isR 0 1),
  (1, gi_get 4 9 4),
  (4, gi_ld gx_isI 1 5),
  (5, gi_ald 0 6),
  (6, gi_st gx_isI 3 7),
  (7, gi_ld gx_isR 0 8),
  (8, gi_get 4 28 11),
  (11, gi_st gx_isI 4 13),
  (13, gi_ld gx_isI 3 14),
  (14, gi_k (.int (2)) 15),
  (15, gi_cmp (fun x y => ¬ x = y) (fun x y => x = y) 27 18),
  (18, gi_ld gx_isR 0 19),
  (19, gi_ld gx_isI 2 20),
  (20, gi_ld gx_isI 2 21),
  (21, gi_vcall (gx_sel 4 38 3) 2 24),
  (24, gi_goto 295),
  (27, gi_ld gx_isI 3 28),
  (28, gi_k (.int (3)) 29),
  (29, gi_cmp (fun x y => ¬ x = y) (fun x y => x = y) 62 32),
  (32, gi_ld gx_isR 0 33),
  (33, gi_ld gx_isI 2 34),
  (34, gi_ld gx_isR 0 35),
  (35, gi_get 4 25 38),
  (38, gi_k (.int (13)) 40),
  (40, gi_ld gx_isI 1 41),
  (41, gi_bin (fun a b => a * b) 42),
  (42, gi_ld gx_isI 2 43),
  (43, gi_bin (fun a b => a + b) 44),
  (44, gi_ald 0 45),
  (45, gi_vcall (gx_sel 4 38 3) 2 48),
  (48, gi_ld gx_isR 0 49),
  (49, gi_ld gx_isR 0 50),
  (50, gi_get 4 10 53),
  (53, gi_ld gx_isI 1 54),
  (54, gi_ald 0 55),
  (55, gi_ld gx_isI 2 56),
  (56, gi_vcall (gx_sel 4 40 3) 2 59),
  (59, gi_goto 295),
  (62, gi_ld gx_isI 3 63),
  (63, gi_k (.int (1)) 64),
  (64, gi_cmp (fun x y => ¬ x = y) (fun x y => x = y) 84 67),
  (67, gi_ld gx_isR 0 68),
  (68, gi_k (.int (40)) 70),
  (70, gi_ld gx_isR 0 71),
  (71, gi_get 4 10 74),
  (74, gi_ld gx_isI 1 75),
  (75, gi_ald 0 76),
  (76, gi_bin (fun a b => a * b) 77),
  (77, gi_ld gx_isI 2 78),
  (78, gi_vcall (gx_sel 4 40 3) 2 81),
  (81, gi_goto 295),
  (84, gi_ld gx_isI 3 85),
  (85, gi_k (.int (10)) 87),
  (87, gi_cmp (fun x y => ¬ x = y) (fun x y => x = y) 135 90),
  (90, gi_ld gx_isR 0 91),
  (91, gi_get 4 10 94),
  (94, gi_ld gx_isI 1 95),
  (95, gi_ald 0 96),
  (96, gi_st gx_isI 5 98),
  (98, gi_ld gx_isR 0 99),
  (99, gi_get 4 25 102),
  (102, gi_k (.int (13)) 104),
  (104, gi_ld gx_isI 5 106),
  (106, gi_bin (fun a b => a * b) 107),
  (107, gi_ld gx_isI 2 108),
  (108, gi_bin (fun a b => a + b) 109),
  (109, gi_ald 0 110),
  (110, gi_if (fun x => ¬ x < 0) (fun x => x < 0) 125 113),
  (113, gi_ld gx_isR 0 114),
  (114, gi_get 4 12 117),
  (117, gi_ld gx_isI 5 119),
  (119, gi_ald 0 120),
  (120, gi_st gx_isI 5 122),
  (122, gi_goto 98),
  (125, gi_ld gx_isR 0 126),
  (126, gi_ld gx_isI 5 128),
  (128, gi_ld gx_isI 2 129),
  (129, gi_vcall (gx_sel 4 40 3) 2 132),
  (132, gi_goto 295),
  (135, gi_ld gx_isI 3 136),
  (136, gi_k (.int (9)) 138),
  (138, gi_cmp (fun x y => ¬ x = y) (fun x y => x = y) 201 141),
  (141, gi_ld gx_isI 2 142),
  (142, gi_st gx_isI 5 144),
  (144, gi_ld gx_isR 0 145),
  (145, gi_get 4 10 148),
  (148, gi_ld gx_isI 1 149),
  (149, gi_ald 0 150),
  (150, gi_st gx_isI 6 152),
  (152, gi_ld gx_isI 6 154),
  (154, gi_if (fun x => x < 0) (fun x => ¬ x < 0) 192 157),
  (157, gi_ld gx_isR 0 158),
  (158, gi_ld gx_isI 6 160),
  (160, gi_ld gx_isI 5 162),
  (162, gi_vcall (gx_sel 4 40 3) 2 165),
  (165, gi_ld gx_isR 0 166),
  (166, gi_get 4 25 169),
  (169, gi_k (.int (13)) 171),
  (171, gi_ld gx_isI 6 173),
  (173, gi_bin (fun a b => a * b) 174),
  (174, gi_ld gx_isI 5 176),
  (176, gi_bin (fun a b => a + b) 177),
  (177, gi_ald 0 178),
  (178, gi_st gx_isI 5 180),
  (180, gi_ld gx_isR 0 181),
  (181, gi_get 4 12 184),
  (184, gi_ld gx_isI 6 186),
  (186, gi_ald 0 187),
  (187, gi_st gx_isI 6 189),
  (189, gi_goto 152),
  (192, gi_ld gx_isR 0 193),
  (193, gi_ld gx_isI 4 195),
  (195, gi_vcall (gx_sel 4 39 5) 1 198),
  (198, gi_goto 295),
  (201, gi_ld gx_isI 3 202),
  (202, gi_k (.int (4)) 203),
  (203, gi_cmp (fun x y => x = y) (fun x y => ¬ x = y) 217 206),
  (206, gi_ld gx_isI 3 207),
  (207, gi_k (.int (5)) 208),
  (208, gi_cmp (fun x y => x = y) (fun x y => ¬ x = y) 217 211),
  (211, gi_ld gx_isI 3 212),
  (212, gi_k (.int (6)) 214),
  (214, gi_cmp (fun x y => ¬ x = y) (fun x y => x = y) 295 217),
  (217, gi_ld gx_isI 2 218),
  (218, gi_st gx_isI 5 220),
  (220, gi_ld gx_isR 0 221),
  (221, gi_get 4 25 224),
  (224, gi_k (.int (13)) 226),
  (226, gi_ld gx_isR 0 227),
  (227, gi_get 4 10 230),
  (230, gi_ld gx_isI 1 231),
  (231, gi_ald 0 232),
  (232, gi_bin (fun a b => a * b) 233),
  (233, gi_ld gx_isI 5 235),
  (235, gi_bin (fun a b => a + b) 236),
  (236, gi_ald 0 237),
  (237, gi_if (fun x => x < 0) (fun x => ¬ x < 0) 289 240),
  (240, gi_ld gx_isI 3 241),
  (241, gi_k (.int (6)) 243),
  (243, gi_cmp (fun x y => ¬ x = y) (fun x y => x = y) 255 246),
  (246, gi_ld gx_isR 0 247),
  (247, gi_get 4 28 250),
  (250, gi_ld gx_isI 4 252),
  (252, gi_cmp (fun x y => ¬ x = y) (fun x y => x = y) 289 255),
  (255, gi_ld gx_isR 0 256),
  (256, gi_ld gx_isR 0 257),
  (257, gi_get 4 10 260),
  (260, gi_ld gx_isI 1 261),
  (261, gi_ald 0 262),
  (262, gi_ld gx_isI 5 264),
  (264, gi_vcall (gx_sel 4 40 3) 2 267),
  (267, gi_ld gx_isR 0 268),
  (268, gi_get 4 25 271),
  (271, gi_k (.int (13)) 273),
  (273, gi_ld gx_isR 0 274),
  (274, gi_get 4 10 277),
  (277, gi_ld gx_isI 1 278),
  (278, gi_ald 0 279),
  (279, gi_bin (fun a b => a * b) 280),
  (280, gi_ld gx_isI 5 282),
  (282, gi_bin (fun a b => a + b) 283),
  (283, gi_ald 0 284),
  (284, gi_st gx_isI 5 286),
  (286, gi_goto 220),
  (289, gi_ld gx_isR 0 290),
  (290, gi_ld gx_isI 4 292),
  (292, gi_vcall (gx_sel 4 39 5) 1 295),
  (295, gi_ret)]
def gm_b42 : List (Nat × gx_T) := [(0, gi_ld gx_isR 0 1),
  (1, gi_ld gx_isI 1 2),
  (2, gi_ld gx_isI 2 3),
  (3, gi_vcall (gx_sel 4 37 4) 2 6),
  (6, gi_ld gx_isR 0 7),
  (7, gi_k (.int (0)) 8),
  (8, gi_puti 4 30 11),
  (11, gi_ld gx_isR 0 12),
  (12, gi_get 4 25 15),
  (15, gi_k (.int (520)) 18),
  (18, gi_ld gx_isI 1 19),
  (19, gi_bin (fun a b => a * b) 20),
  (20, gi_ld gx_isI 2 21),
  (21, gi_bin (fun a b => a + b) 22),
  (22, gi_ald 0 23),
  (23, gi_st gx_isI 3 24),
  (24, gi_ld gx_isR 0 25),
  (25, gi_k (.int (0)) 26),
  (26, gi_puti 4 28 29),
  (29, gi_ld gx_isI 3 30),
  (30, gi_if (fun x => x < 0) (fun x => ¬ x < 0) 42 33),
  (33, gi_ld gx_isR 0 34),
  (34, gi_k (.int (40)) 36),
  (36, gi_ld gx_isI 1 37),
  (37, gi_bin (fun a b => a * b) 38),
  (38, gi_ld gx_isI 2 39),
  (39, gi_vcall (gx_sel 4 40 3) 2 42),
  (42, gi_ld gx_isR 0 43),
  (43, gi_get 4 28 46),
  (46, gi_if (fun x => ¬ 0 < x) (fun x => 0 < x) 96 49),
  (49, gi_ld gx_isR 0 50),
  (50, gi_get 4 30 53),
  (53, gi_k (.int (40)) 55),
  (55, gi_cmp (fun x y => ¬ x < y) (fun x y => x < y) 96 58),
  (58, gi_ld gx_isR 0 59),
  (59, gi_dup 60),
  (60, gi_get 4 28 63),
  (63, gi_k (.int (1)) 64),
  (64, gi_bin (fun a b => a - b) 65),
  (65, gi_puti 4 28 68),
  (68, gi_ld gx_isR 0 69),
  (69, gi_get 4 27 72),
  (72, gi_ld gx_isR 0 73),
  (73, gi_get 4 28 76),
  (76, gi_ald 0 77),
  (77, gi_st gx_isI 4 79),
  (79, gi_ld gx_isR 0 80),
  (80, gi_ld gx_isI 4 82),
  (82, gi_k (.int (13)) 84),
  (84, gi_div (fun a b => a / b) 85),
  (85, gi_ld gx_isI 4 87),
  (87, gi_k (.int (13)) 89),
  (89, gi_div (fun a b => a - a / b * b) 90),
  (90, gi_vcall (gx_sel 4 41 7) 2 93),
  (93, gi_goto 42),
  (96, gi_ld gx_isI 3 97),
  (97, gi_ireti)]
def gm_b43 : List (Nat × gx_T) := [(0, gi_ld gx_isR 0 1),
  (1, gi_ld gx_isI 1 2),
  (2, gi_call 2 1 1 5),
  (5, gi_if (fun x => x = 0) (fun x => ¬ x = 0) 20 8),
  (8, gi_ld gx_isI 2 9),
  (9, gi_if (fun x => x < 0) (fun x => ¬ x < 0) 20 12),
  (12, gi_ld gx_isI 2 13),
  (13, gi_ld gx_isR 0 14),
  (14, gi_get 4 4 17),
  (17, gi_cmp (fun x y => ¬ y < x) (fun x y => y < x) 24 20),
  (20, gi_k (.int (1)) 21),
  (21, gi_goto 37),
  (24, gi_ld gx_isR 0 25),
  (25, gi_ld gx_isI 1 26),
  (26, gi_vcall (gx_sel 4 27 8) 1 29),
  (29, gi_if (fun x => x = 0) (fun x => ¬ x = 0) 36 32),
  (32, gi_k (.int (2)) 33),
  (33, gi_goto 37),
  (36, gi_k (.int (0)) 37),
  (37, gi_puti 4 0 40),
  (40, gi_ld gx_isR 0 41),
  (41, gi_get 4 0 44),
  (44, gi_if (fun x => ¬ 0 < x) (fun x => 0 < x) 49 47),
  (47, gi_k (.int (0)) 48),
  (48, gi_ireti),
  (49, gi_ld gx_isR 0 50),
  (50, gi_vcall (gx_sel 4 33 4) 0 53),
  (53, gi_ld gx_isR 0 54),
  (54, gi_ld gx_isI 1 55),
  (55, gi_ld gx_isI 2 56),
  (56, gi_vcall (gx_sel 4 42 5) 2 59),
  (59, gi_ireti)]
def gm_b44 : List (Nat × gx_T) := [(0, gi_ld gx_isR 0 1),
  (1, gi_ld gx_isI 1 2),
  (2, gi_call 2 1 1 5),
  (5, gi_if (fun x => ¬ x = 0) (fun x => x = 0) 12 8),
  (8, gi_k (.int (1)) 9),
  (9, gi_goto 25),
  (12, gi_ld gx_isR 0 13),
  (13, gi_ld gx_isI 1 14),
  (14, gi_vcall (gx_sel 4 27 8) 1 17),
  (17, gi_if (fun x => x = 0) (fun x => ¬ x = 0) 24 20),
  (20, gi_k (.int (2)) 21),
  (21, gi_goto 25),
  (24, gi_k (.int (0)) 25),
  (25, gi_puti 4 0 28),
  (28, gi_ld gx_isR 0 29),
  (29, gi_get 4 0 32),
  (32, gi_if (fun x => ¬ 0 < x) (fun x => 0 < x) 37 35),
  (35, gi_k (.int (0)) 36),
  (36, gi_ireti),
  (37, gi_ld gx_isR 0 38),
  (38, gi_vcall (gx_sel 4 33 4) 0 41),
  (41, gi_k (.int (0)) 42),
  (42, gi_st gx_isI 2 43),
  (43, gi_ld gx_isI 2 44),
  (44, gi_ld gx_isR 0 45),
  (45, gi_get 4 4 48),
  (48, gi_cmp (fun x y => y < x) (fun x y => ¬ y < x) 66 51),
  (51, gi_ld gx_isR 0 52),
  (52, gi_ld gx_isI 1 53),
  (53, gi_ld gx_isI 2 54),
  (54, gi_vcall (gx_sel 4 42 5) 2 57),
  (57, gi_if (fun x => ¬ x < 0) (fun x => x < 0) 66 60),
  (60, gi_inc 2 (Int32.ofInt (1)) 63),
  (63, gi_goto 43),
  (66, gi_ld gx_isI 2 67),
  (67, gi_ld gx_isR 0 68),
  (68, gi_get 4 4 71),
  (71, gi_cmp (fun x y => ¬ y < x) (fun x y => y < x) 78 74),
  (74, gi_k (.int (-1)) 75),
  (75, gi_goto 79),
  (78, gi_ld gx_isI 2 79),
  (79, gi_ireti)]
def gm_b45 : List (Nat × gx_T) := [(0, gi_ld gx_isR 0 1),
  (1, gi_k (.int (0)) 2),
  (2, gi_puti 4 0 5),
  (5, gi_ld gx_isR 0 6),
  (6, gi_get 4 30 9),
  (9, gi_ireti)]
def gm_b46 : List (Nat × gx_T) := [(0, gi_ld gx_isR 0 1),
  (1, gi_ld gx_isI 1 2),
  (2, gi_if (fun x => x < 0) (fun x => ¬ x < 0) 22 5),
  (5, gi_ld gx_isI 1 6),
  (6, gi_ld gx_isR 0 7),
  (7, gi_get 4 30 10),
  (10, gi_cmp (fun x y => ¬ x < y) (fun x y => x < y) 22 13),
  (13, gi_ld gx_isI 2 14),
  (14, gi_if (fun x => x < 0) (fun x => ¬ x < 0) 22 17),
  (17, gi_ld gx_isI 2 18),
  (18, gi_k (.int (1)) 19),
  (19, gi_cmp (fun x y => ¬ y < x) (fun x y => y < x) 26 22),
  (22, gi_k (.int (1)) 23),
  (23, gi_goto 27),
  (26, gi_k (.int (0)) 27),
  (27, gi_puti 4 0 30),
  (30, gi_ld gx_isR 0 31),
  (31, gi_get 4 0 34),
  (34, gi_if (fun x => ¬ 0 < x) (fun x => 0 < x) 39 37),
  (37, gi_k (.int (0)) 38),
  (38, gi_ireti),
  (39, gi_ld gx_isI 2 40),
  (40, gi_if (fun x => ¬ x = 0) (fun x => x = 0) 52 43),
  (43, gi_ld gx_isR 0 44),
  (44, gi_get 4 31 47),
  (47, gi_ld gx_isI 1 48),
  (48, gi_ald 0 49),
  (49, gi_goto 58),
  (52, gi_ld gx_isR 0 53),
  (53, gi_get 4 32 56),
  (56, gi_ld gx_isI 1 57),
  (57, gi_ald 0 58),
  (58, gi_ireti)]
def gm_b47 : List (Nat × gx_T) := [(0, gi_ld gx_isR 0 1),
  (1, gi_k (.int (0)) 2),
  (2, gi_puti 4 0 5),
  (5, gi_ld gx_isR 0 6),
  (6, gi_get 4 33 9),
  (9, gi_ireti)]
def gm_b48 : List (Nat × gx_T) := [(0, gi_ld gx_isR 0 1),
  (1, gi_k (.int (0)) 2),
  (2, gi_puti 4 0 5),
  (5, gi_ld gx_isR 0 6),
  (6, gi_get 4 34 9),
  (9, gi_ireti)]
def gm_tb : Nat → List (Nat × gx_T) := fun m => [gm_b0, gm_b1, gm_b2, gm_b3, gm_b4, gm_b5, gm_b6, gm_b7, gm_b8, gm_b9, gm_b10, gm_b11, gm_b12, gm_b13, gm_b14, gm_b15, gm_b16, gm_b17, gm_b18, gm_b19, gm_b20, gm_b21, gm_b22, gm_b23, gm_b24, gm_b25, gm_b26, gm_b27, gm_b28, gm_b29, gm_b30, gm_b31, gm_b32, gm_b33, gm_b34, gm_b35, gm_b36, gm_b37, gm_b38, gm_b39, gm_b40, gm_b41, gm_b42, gm_b43, gm_b44, gm_b45, gm_b46, gm_b47, gm_b48].getD m []
def gm_P : gx_P := fun m pc => gx_find pc (gm_tb m)
end
section
/-! What each stretch of the model's methods does. -/
/-- the model's cells by the numbers in them: S 0 its own fields, S k its k-th array -/
def gm_h (S : Nat → Nat → Int32) : gx_H := [.inr (4, [.int (S 0 0), .ref 1, .int (S 0 2), .ref 2, .int (S 0 4), .ref 3, .ref 4, .ref 5, .ref 6, .ref 7, .ref 8, .ref 9, .ref 10, .ref 11, .ref 12, .ref 13, .ref 14, .int (S 0 17), .int (S 0 18), .int (S 0 19), .ref 15, .ref 16, .ref 17, .ref 18, .ref 19, .ref 20, .ref 21, .ref 22, .int (S 0 28), .ref 23, .int (S 0 30), .ref 24, .ref 25, .int (S 0 33), .int (S 0 34)]), .inl (0, 20, .inl (S 1)), .inl (0, 12, .inl (S 2)), .inl (2, 4, .inl (S 3)), .inl (0, 80, .inl (S 4)), .inl (0, 4, .inl (S 5)), .inl (0, 5, .inl (S 6)), .inl (0, 200, .inl (S 7)), .inl (0, 200, .inl (S 8)), .inl (0, 200, .inl (S 9)), .inl (0, 200, .inl (S 10)), .inl (0, 200, .inl (S 11)), .inl (2, 200, .inl (S 12)), .inl (0, 200, .inl (S 13)), .inl (0, 4, .inl (S 14)), .inl (0, 8, .inl (S 15)), .inl (0, 8, .inl (S 16)), .inl (0, 8, .inl (S 17)), .inl (0, 8, .inl (S 18)), .inl (0, 8, .inl (S 19)), .inl (0, 2600, .inl (S 20)), .inl (2, 2600, .inl (S 21)), .inl (0, 2600, .inl (S 22)), .inl (2, 52, .inl (S 23)), .inl (0, 40, .inl (S 24)), .inl (0, 40, .inl (S 25))]
/-- number j of cell k is v -/
def gm_u (S : Nat → Nat → Int32) (k j : Nat) (v : Int32) : Nat → Nat → Int32 := fun k' => match Nat.beq k' k with
  | true => upd (S k) j v
  | false => S k'
theorem gb_thrown_0 {d : Nat} {Q : gx_R → Prop} {bc bs : Nat} {S : Nat → Nat → Int32}  (k : Q (.inl (some (.int (S 0 0))), gm_h S)) : gx_X gm_P (d + 1) 1 (0, [some (.ref 0)], [], gm_h S, bc, bs) Q := gx_X.bs [0] 3 (k)
theorem gb_isRule_0 {d : Nat} {Q : gx_R → Prop} {bc bs : Nat} {S : Nat → Nat → Int32} {a0 : Int32} (k : ((a0 < 0) → gx_X gm_P (d + 1) 2 (13, [some (.int a0)], [], gm_h S, bc, bs) Q) ∧ ((¬ a0 < 0) → ((¬ a0 < (4)) → gx_X gm_P (d + 1) 2 (13, [some (.int a0)], [], gm_h S, bc, bs) Q) ∧ ((a0 < (4)) → gx_X gm_P (d + 1) 2 (14, [some (.int a0)], [.int (1)], gm_h S, bc, bs) Q))) : gx_X gm_P (d + 1) 2 (0, [some (.int a0)], [], gm_h S, bc, bs) Q := gx_X.bs [0, 13, 14] 8 (And.intro (fun h2 => ((k).1 h2)) (fun h2 => And.intro (fun h1 => ((((k).2 h2)).1 h1)) (fun h1 => ((((k).2 h2)).2 h1))))
theorem gb_isRule_13 {d : Nat} {Q : gx_R → Prop} {bc bs : Nat} {S : Nat → Nat → Int32} {o0 : Option Value} (k : gx_X gm_P (d + 1) 2 (14, [o0], [.int (0)], gm_h S, bc, bs) Q) : gx_X gm_P (d + 1) 2 (13, [o0], [], gm_h S, bc, bs) Q := gx_X.bs [0, 13, 14] 2 (k)
theorem gb_isRule_14 {d : Nat} {Q : gx_R → Prop} {bc bs : Nat} {S : Nat → Nat → Int32} {o0 : Option Value} {s0 : Int32} (k : (narrow .boolean (.int s0) = .int s0) ∧ (Q (.inl (some (.int s0)), gm_h S))) : gx_X gm_P (d + 1) 2 (14, [o0], [.int s0], gm_h S, bc, bs) Q := gx_X.bs [0, 13, 14] 1 (And.intro (k).1 ((k).2))
theorem gb_charactersOf_0 {d : Nat} {Q : gx_R → Prop} {bc bs : Nat} {S : Nat → Nat → Int32} {a0 : Int32} {o1 : Option Value} {o2 : Option Value} (k : gx_X gm_P (d + 1) 3 (2, [some (.int a0), some (.int (0)), o2], [], gm_h S, bc, bs) Q) : gx_X gm_P (d + 1) 3 (0, [some (.int a0), o1, o2], [], gm_h S, bc, bs) Q := gx_X.bs [0, 2, 43, 51] 3 (k)
theorem gb_charactersOf_2 {d : Nat} {Q : gx_R → Prop} {bc bs : Nat} {S : Nat → Nat → Int32} {a0 : Int32} {a1 : Int32} {o2 : Option Value} (k : ((¬ a1 < (4)) → gx_X gm_P (d + 1) 3 (51, [some (.int a0), some (.int a1), o2], [], gm_h S, bc, bs) Q) ∧ ((a1 < (4)) → ((((a0 >>> (((8) * a1) &&& 31)) &&& (255)) = 0) → gx_X gm_P (d + 1) 3 (51, [some (.int a0), some (.int a1), o2], [], gm_h S, bc, bs) Q) ∧ ((¬ ((a0 >>> (((8) * a1) &&& 31)) &&& (255)) = 0) → ((((a0 >>> (((8) * a1) &&& 31)) &&& (255)) < (32)) → gx_X gm_P (d + 1) 3 (43, [some (.int a0), some (.int a1), some (.int ((a0 >>> (((8) * a1) &&& 31)) &&& (255)))], [], gm_h S, bc, bs) Q) ∧ ((¬ ((a0 >>> (((8) * a1) &&& 31)) &&& (255)) < (32)) → ((¬ (126) < ((a0 >>> (((8) * a1) &&& 31)) &&& (255))) → gx_X gm_P (d + 1) 3 (2, [some (.int a0), some (.int (a1 + Int32.ofInt (1))), some (.int ((a0 >>> (((8) * a1) &&& 31)) &&& (255)))], [], gm_h S, bc, bs) Q) ∧ (((126) < ((a0 >>> (((8) * a1) &&& 31)) &&& (255))) → gx_X gm_P (d + 1) 3 (43, [some (.int a0), some (.int a1), some (.int ((a0 >>> (((8) * a1) &&& 31)) &&& (255)))], [], gm_h S, bc, bs) Q))))) : gx_X gm_P (d + 1) 3 (2, [some (.int a0), some (.int a1), o2], [], gm_h S, bc, bs) Q := gx_X.bs [0, 2, 43, 51] 28 (And.intro (fun h4 => ((k).1 h4)) (fun h4 => And.intro (fun h3 => ((((k).2 h4)).1 h3)) (fun h3 => And.intro (fun h2 => ((((((k).2 h4)).2 h3)).1 h2)) (fun h2 => And.intro (fun h1 => ((((((((k).2 h4)).2 h3)).2 h2)).1 h1)) (fun h1 => ((((((((k).2 h4)).2 h3)).2 h2)).2 h1))))))
theorem gb_charactersOf_43 {d : Nat} {Q : gx_R → Prop} {bc bs : Nat} {S : Nat → Nat → Int32} {o0 : Option Value} {o1 : Option Value} {o2 : Option Value} (k : Q (.inl (some (.int (-1))), gm_h S)) : gx_X gm_P (d + 1) 3 (43, [o0, o1, o2], [], gm_h S, bc, bs) Q := gx_X.bs [0, 2, 43, 51] 2 (k)
theorem gb_charactersOf_51 {d : Nat} {Q : gx_R → Prop} {bc bs : Nat} {S : Nat → Nat → Int32} {o0 : Option Value} {a1 : Int32} {o2 : Option Value} (k : Q (.inl (some (.int a1)), gm_h S)) : gx_X gm_P (d + 1) 3 (51, [o0, some (.int a1), o2], [], gm_h S, bc, bs) Q := gx_X.bs [0, 2, 43, 51] 2 (k)
theorem gb_type_0 {d : Nat} {Q : gx_R → Prop} {bc bs : Nat} {S : Nat → Nat → Int32} {a1 : Int32} {o2 : Option Value} {o3 : Option Value} (k : gx_X gm_P d 3 (0, [some (.int a1), none, none], [], gm_h S, 0, 0) (gx_k [some (.ref 0), some (.int a1), o2, o3] [] 4 bc bs (fun S9 => gx_X gm_P (d + 1) 4 S9 Q) Q)) : gx_X gm_P (d + 1) 4 (0, [some (.ref 0), some (.int a1), o2, o3], [], gm_h S, bc, bs) Q := gx_X.bs [0, 4, 15, 33, 37] 2 (⟨0, 0, ⟨Nat.zero_le _, Nat.zero_le _⟩, k⟩)
theorem gb_type_4 {d : Nat} {Q : gx_R → Prop} {bc bs : Nat} {S : Nat → Nat → Int32} {a1 : Int32} {o2 : Option Value} {o3 : Option Value} {s0 : Int32} (k : ((¬ s0 < 0) → gx_X gm_P (d + 1) 4 (15, [some (.ref 0), some (.int a1), some (.int s0), o3], [.int (0), .ref 0], gm_h S, bc, bs) Q) ∧ ((s0 < 0) → gx_X gm_P (d + 1) 4 (15, [some (.ref 0), some (.int a1), some (.int s0), o3], [.int (1), .ref 0], gm_h S, bc, bs) Q)) : gx_X gm_P (d + 1) 4 (4, [some (.ref 0), some (.int a1), o2, o3], [.int s0], gm_h S, bc, bs) Q := gx_X.bs [0, 4, 15, 33, 37] 7 (And.intro (fun h1 => ((k).1 h1)) (fun h1 => ((k).2 h1)))
theorem gb_type_15 {d : Nat} {Q : gx_R → Prop} {bc bs : Nat} {S : Nat → Nat → Int32} {a1 : Int32} {a2 : Int32} {o3 : Option Value} {s0 : Int32} (k : ((a2 < 0) → gx_X gm_P (d + 1) 4 (33, [some (.ref 0), some (.int a1), some (.int a2), o3], [], gm_h (gm_u S 0 0 s0), bc, bs) Q) ∧ ((¬ a2 < 0) → ((¬ (20) < ((S 0 2) + a2)) → gx_X gm_P (d + 1) 4 (37, [some (.ref 0), some (.int a1), some (.int a2), some (.int (0))], [], gm_h (gm_u S 0 0 s0), bc, bs) Q) ∧ (((20) < ((S 0 2) + a2)) → gx_X gm_P (d + 1) 4 (33, [some (.ref 0), some (.int a1), some (.int a2), o3], [], gm_h (gm_u S 0 0 s0), bc, bs) Q))) : gx_X gm_P (d + 1) 4 (15, [some (.ref 0), some (.int a1), some (.int a2), o3], [.int s0, .ref 0], gm_h S, bc, bs) Q := gx_X.bs [0, 4, 15, 33, 37] 12 (And.intro (fun h2 => ((k).1 h2)) (fun h2 => And.intro (fun h1 => ((((k).2 h2)).1 h1)) (fun h1 => ((((k).2 h2)).2 h1))))
theorem gb_type_33 {d : Nat} {Q : gx_R → Prop} {bc bs : Nat} {S : Nat → Nat → Int32} {o1 : Option Value} {o2 : Option Value} {o3 : Option Value} (k : Q (.inl (some (.int (0))), gm_h S)) : gx_X gm_P (d + 1) 4 (33, [some (.ref 0), o1, o2, o3], [], gm_h S, bc, bs) Q := gx_X.bs [0, 4, 15, 33, 37] 2 (And.intro (by first | decide | (unfold vp_in; decide)) (k))
theorem gb_type_37 {d : Nat} {Q : gx_R → Prop} {bc bs : Nat} {S : Nat → Nat → Int32} {a1 : Int32} {a2 : Int32} {a3 : Int32} (k : ((¬ a3 < a2) → Q (.inl (some (.int (1))), gm_h S)) ∧ ((a3 < a2) → (vp_in (S 0 2) 20) ∧ (gx_X gm_P (d + 1) 4 (37, [some (.ref 0), some (.int a1), some (.int a2), some (.int (a3 + Int32.ofInt (1)))], [], gm_h (gm_u (gm_u S 1 (Int32.toNatClampNeg (S 0 2)) ((a1 >>> (((8) * a3) &&& 31)) &&& (255))) 0 2 ((S 0 2) + (1))), bc, bs) Q))) : gx_X gm_P (d + 1) 4 (37, [some (.ref 0), some (.int a1), some (.int a2), some (.int a3)], [], gm_h S, bc, bs) Q := gx_X.bs [0, 4, 15, 33, 37] 24 (And.intro (fun h1 => And.intro (by first | decide | (unfold vp_in; decide)) (((k).1 h1))) (fun h1 => And.intro (((k).2 h1)).1 ((((k).2 h1)).2)))
theorem gb_text_0 {d : Nat} {Q : gx_R → Prop} {bc bs : Nat} {S : Nat → Nat → Int32} {a1 : Int32} {o2 : Option Value} {o3 : Option Value} (k : gx_X gm_P d 3 (0, [some (.int a1), none, none], [], gm_h S, 0, 0) (gx_k [some (.ref 0), some (.int a1), o2, o3] [] 4 bc bs (fun S9 => gx_X gm_P (d + 1) 5 S9 Q) Q)) : gx_X gm_P (d + 1) 5 (0, [some (.ref 0), some (.int a1), o2, o3], [], gm_h S, bc, bs) Q := gx_X.bs [0, 4, 15, 33, 37] 2 (⟨0, 0, ⟨Nat.zero_le _, Nat.zero_le _⟩, k⟩)
theorem gb_text_4 {d : Nat} {Q : gx_R → Prop} {bc bs : Nat} {S : Nat → Nat → Int32} {a1 : Int32} {o2 : Option Value} {o3 : Option Value} {s0 : Int32} (k : ((¬ s0 < 0) → gx_X gm_P (d + 1) 5 (15, [some (.ref 0), some (.int a1), some (.int s0), o3], [.int (0), .ref 0], gm_h S, bc, bs) Q) ∧ ((s0 < 0) → gx_X gm_P (d + 1) 5 (15, [some (.ref 0), some (.int a1), some (.int s0), o3], [.int (1), .ref 0], gm_h S, bc, bs) Q)) : gx_X gm_P (d + 1) 5 (4, [some (.ref 0), some (.int a1), o2, o3], [.int s0], gm_h S, bc, bs) Q := gx_X.bs [0, 4, 15, 33, 37] 7 (And.intro (fun h1 => ((k).1 h1)) (fun h1 => ((k).2 h1)))
theorem gb_text_15 {d : Nat} {Q : gx_R → Prop} {bc bs : Nat} {S : Nat → Nat → Int32} {a1 : Int32} {a2 : Int32} {o3 : Option Value} {s0 : Int32} (k : ((a2 < 0) → gx_X gm_P (d + 1) 5 (33, [some (.ref 0), some (.int a1), some (.int a2), o3], [], gm_h (gm_u S 0 0 s0), bc, bs) Q) ∧ ((¬ a2 < 0) → ((¬ (9) < ((S 0 4) + a2)) → gx_X gm_P (d + 1) 5 (37, [some (.ref 0), some (.int a1), some (.int a2), some (.int (0))], [], gm_h (gm_u S 0 0 s0), bc, bs) Q) ∧ (((9) < ((S 0 4) + a2)) → gx_X gm_P (d + 1) 5 (33, [some (.ref 0), some (.int a1), some (.int a2), o3], [], gm_h (gm_u S 0 0 s0), bc, bs) Q))) : gx_X gm_P (d + 1) 5 (15, [some (.ref 0), some (.int a1), some (.int a2), o3], [.int s0, .ref 0], gm_h S, bc, bs) Q := gx_X.bs [0, 4, 15, 33, 37] 12 (And.intro (fun h2 => ((k).1 h2)) (fun h2 => And.intro (fun h1 => ((((k).2 h2)).1 h1)) (fun h1 => ((((k).2 h2)).2 h1))))
theorem gb_text_33 {d : Nat} {Q : gx_R → Prop} {bc bs : Nat} {S : Nat → Nat → Int32} {o1 : Option Value} {o2 : Option Value} {o3 : Option Value} (k : Q (.inl (some (.int (0))), gm_h S)) : gx_X gm_P (d + 1) 5 (33, [some (.ref 0), o1, o2, o3], [], gm_h S, bc, bs) Q := gx_X.bs [0, 4, 15, 33, 37] 2 (And.intro (by first | decide | (unfold vp_in; decide)) (k))
theorem gb_text_37 {d : Nat} {Q : gx_R → Prop} {bc bs : Nat} {S : Nat → Nat → Int32} {a1 : Int32} {a2 : Int32} {a3 : Int32} (k : ((¬ a3 < a2) → Q (.inl (some (.int (1))), gm_h S)) ∧ ((a3 < a2) → (vp_in (S 0 4) 12) ∧ (gx_X gm_P (d + 1) 5 (37, [some (.ref 0), some (.int a1), some (.int a2), some (.int (a3 + Int32.ofInt (1)))], [], gm_h (gm_u (gm_u S 2 (Int32.toNatClampNeg (S 0 4)) ((a1 >>> (((8) * a3) &&& 31)) &&& (255))) 0 4 ((S 0 4) + (1))), bc, bs) Q))) : gx_X gm_P (d + 1) 5 (37, [some (.ref 0), some (.int a1), some (.int a2), some (.int a3)], [], gm_h S, bc, bs) Q := gx_X.bs [0, 4, 15, 33, 37] 24 (And.intro (fun h1 => And.intro (by first | decide | (unfold vp_in; decide)) (((k).1 h1))) (fun h1 => And.intro (((k).2 h1)).1 ((((k).2 h1)).2)))
theorem gb_clear_0 {d : Nat} {Q : gx_R → Prop} {bc bs : Nat} {S : Nat → Nat → Int32} {o1 : Option Value} (k : Q (.inl (some (.int (S 0 4))), gm_h (gm_u (gm_u S 0 0 (0)) 0 4 (0)))) : gx_X gm_P (d + 1) 6 (0, [some (.ref 0), o1], [], gm_h S, bc, bs) Q := gx_X.bs [0] 11 (k)
theorem gb_look_0 {d : Nat} {Q : gx_R → Prop} {bc bs : Nat} {S : Nat → Nat → Int32} {a1 : Int32} (k : ((¬ a1 < (S 0 2)) → gx_X gm_P (d + 1) 7 (18, [some (.ref 0), some (.int a1)], [.int (0)], gm_h S, bc, bs) Q) ∧ ((a1 < (S 0 2)) → (vp_in a1 20) ∧ (gx_X gm_P (d + 1) 7 (18, [some (.ref 0), some (.int a1)], [.int (S 1 (Int32.toNatClampNeg a1))], gm_h S, bc, bs) Q))) : gx_X gm_P (d + 1) 7 (0, [some (.ref 0), some (.int a1)], [], gm_h S, bc, bs) Q := gx_X.bs [0, 18] 10 (And.intro (fun h1 => ((k).1 h1)) (fun h1 => And.intro (((k).2 h1)).1 ((((k).2 h1)).2)))
theorem gb_look_18 {d : Nat} {Q : gx_R → Prop} {bc bs : Nat} {S : Nat → Nat → Int32} {o1 : Option Value} {s0 : Int32} (k : Q (.inl (some (.int s0)), gm_h S)) : gx_X gm_P (d + 1) 7 (18, [some (.ref 0), o1], [.int s0], gm_h S, bc, bs) Q := gx_X.bs [0, 18] 1 (k)
theorem gb_isSmall_0 {d : Nat} {Q : gx_R → Prop} {bc bs : Nat} {S : Nat → Nat → Int32} {a0 : Int32} (k : ((a0 < (97)) → gx_X gm_P (d + 1) 8 (12, [some (.int a0)], [], gm_h S, bc, bs) Q) ∧ ((¬ a0 < (97)) → ((¬ (122) < a0) → gx_X gm_P (d + 1) 8 (24, [some (.int a0)], [], gm_h S, bc, bs) Q) ∧ (((122) < a0) → gx_X gm_P (d + 1) 8 (12, [some (.int a0)], [], gm_h S, bc, bs) Q))) : gx_X gm_P (d + 1) 8 (0, [some (.int a0)], [], gm_h S, bc, bs) Q := gx_X.bs [0, 12, 24, 28, 29] 7 (And.intro (fun h2 => ((k).1 h2)) (fun h2 => And.intro (fun h1 => ((((k).2 h2)).1 h1)) (fun h1 => ((((k).2 h2)).2 h1))))
theorem gb_isSmall_12 {d : Nat} {Q : gx_R → Prop} {bc bs : Nat} {S : Nat → Nat → Int32} {a0 : Int32} (k : ((a0 < (48)) → gx_X gm_P (d + 1) 8 (28, [some (.int a0)], [], gm_h S, bc, bs) Q) ∧ ((¬ a0 < (48)) → (((57) < a0) → gx_X gm_P (d + 1) 8 (28, [some (.int a0)], [], gm_h S, bc, bs) Q) ∧ ((¬ (57) < a0) → gx_X gm_P (d + 1) 8 (24, [some (.int a0)], [], gm_h S, bc, bs) Q))) : gx_X gm_P (d + 1) 8 (12, [some (.int a0)], [], gm_h S, bc, bs) Q := gx_X.bs [0, 12, 24, 28, 29] 7 (And.intro (fun h2 => ((k).1 h2)) (fun h2 => And.intro (fun h1 => ((((k).2 h2)).1 h1)) (fun h1 => ((((k).2 h2)).2 h1))))
theorem gb_isSmall_24 {d : Nat} {Q : gx_R → Prop} {bc bs : Nat} {S : Nat → Nat → Int32} {o0 : Option Value} (k : gx_X gm_P (d + 1) 8 (29, [o0], [.int (1)], gm_h S, bc, bs) Q) : gx_X gm_P (d + 1) 8 (24, [o0], [], gm_h S, bc, bs) Q := gx_X.bs [0, 12, 24, 28, 29] 3 (k)
theorem gb_isSmall_28 {d : Nat} {Q : gx_R → Prop} {bc bs : Nat} {S : Nat → Nat → Int32} {o0 : Option Value} (k : gx_X gm_P (d + 1) 8 (29, [o0], [.int (0)], gm_h S, bc, bs) Q) : gx_X gm_P (d + 1) 8 (28, [o0], [], gm_h S, bc, bs) Q := gx_X.bs [0, 12, 24, 28, 29] 2 (k)
theorem gb_isSmall_29 {d : Nat} {Q : gx_R → Prop} {bc bs : Nat} {S : Nat → Nat → Int32} {o0 : Option Value} {s0 : Int32} (k : (narrow .boolean (.int s0) = .int s0) ∧ (Q (.inl (some (.int s0)), gm_h S))) : gx_X gm_P (d + 1) 8 (29, [o0], [.int s0], gm_h S, bc, bs) Q := gx_X.bs [0, 12, 24, 28, 29] 1 (And.intro (k).1 ((k).2))
theorem gb_make_0 {d : Nat} {Q : gx_R → Prop} {bc bs : Nat} {S : Nat → Nat → Int32} {a1 : Int32} {a2 : Int32} {o3 : Option Value} (k : (vp_in ((160) + (S 6 4)) 200) ∧ ((vp_in ((160) + (S 6 4)) 200) ∧ ((vp_in ((160) + (S 6 4)) 200) ∧ ((vp_in ((160) + (S 6 4)) 200) ∧ ((vp_in ((160) + (S 6 4)) 200) ∧ (Q (.inl (some (.int ((160) + (S 6 4)))), gm_h (gm_u (gm_u (gm_u (gm_u (gm_u (gm_u S 6 4 ((S 6 4) + (1))) 7 (Int32.toNatClampNeg ((160) + (S 6 4))) a1) 8 (Int32.toNatClampNeg ((160) + (S 6 4))) a2) 9 (Int32.toNatClampNeg ((160) + (S 6 4))) (0)) 10 (Int32.toNatClampNeg ((160) + (S 6 4))) (-1)) 11 (Int32.toNatClampNeg ((160) + (S 6 4))) a2)))))))) : gx_X gm_P (d + 1) 9 (0, [some (.ref 0), some (.int a1), some (.int a2), o3], [], gm_h S, bc, bs) Q := gx_X.bs [0] 42 (And.intro (by first | decide | (unfold vp_in; decide)) (And.intro (by first | decide | (unfold vp_in; decide)) (And.intro (by first | decide | (unfold vp_in; decide)) (And.intro (k).1 (And.intro ((k).2).1 (And.intro (((k).2).2).1 (And.intro ((((k).2).2).2).1 (And.intro (((((k).2).2).2).2).1 ((((((k).2).2).2).2).2)))))))))
theorem gb_append_0 {d : Nat} {Q : gx_R → Prop} {bc bs : Nat} {S : Nat → Nat → Int32} {a1 : Int32} {a2 : Int32} (k : (vp_in a1 200) ∧ (((¬ (S 8 (Int32.toNatClampNeg a1)) < 0) → (vp_in a1 200) ∧ ((vp_in (S 11 (Int32.toNatClampNeg a1)) 200) ∧ (gx_X gm_P (d + 1) 10 (31, [some (.ref 0), some (.int a1), some (.int a2)], [], gm_h (gm_u S 10 (Int32.toNatClampNeg (S 11 (Int32.toNatClampNeg a1))) a2), bc, bs) Q))) ∧ (((S 8 (Int32.toNatClampNeg a1)) < 0) → (vp_in a1 200) ∧ (gx_X gm_P (d + 1) 10 (31, [some (.ref 0), some (.int a1), some (.int a2)], [], gm_h (gm_u S 8 (Int32.toNatClampNeg a1) a2), bc, bs) Q)))) : gx_X gm_P (d + 1) 10 (0, [some (.ref 0), some (.int a1), some (.int a2)], [], gm_h S, bc, bs) Q := gx_X.bs [0, 31] 14 (And.intro (k).1 (And.intro (fun h1 => And.intro ((((k).2).1 h1)).1 (And.intro (((((k).2).1 h1)).2).1 ((((((k).2).1 h1)).2).2))) (fun h1 => And.intro ((((k).2).2 h1)).1 (((((k).2).2 h1)).2))))
theorem gb_append_31 {d : Nat} {Q : gx_R → Prop} {bc bs : Nat} {S : Nat → Nat → Int32} {a1 : Int32} {a2 : Int32} (k : (vp_in a1 200) ∧ (Q (.inl none, gm_h (gm_u S 11 (Int32.toNatClampNeg a1) a2)))) : gx_X gm_P (d + 1) 10 (31, [some (.ref 0), some (.int a1), some (.int a2)], [], gm_h S, bc, bs) Q := gx_X.bs [0, 31] 6 (And.intro (k).1 ((k).2))
theorem gb_newSequence_0 {d : Nat} {Q : gx_R → Prop} {bc bs : Nat} {S : Nat → Nat → Int32} {o1 : Option Value} (k : gx_X gm_P d 9 (0, [some (.ref 0), some (.int (9)), some (.int (-1)), none], [], gm_h S, 0, 0) (gx_k [some (.ref 0), o1] [] 7 bc bs (fun S9 => gx_X gm_P (d + 1) 11 S9 Q) Q)) : gx_X gm_P (d + 1) 11 (0, [some (.ref 0), o1], [], gm_h S, bc, bs) Q := gx_X.bs [0, 7, 32] 4 (⟨0, 0, ⟨Nat.zero_le _, Nat.zero_le _⟩, k⟩)
theorem gb_newSequence_7 {d : Nat} {Q : gx_R → Prop} {bc bs : Nat} {S : Nat → Nat → Int32} {o1 : Option Value} {s0 : Int32} (k : (vp_in (S 0 19) 8) ∧ ((vp_in (S 0 19) 8) ∧ (gx_X gm_P d 10 (0, [some (.ref 0), some (.int (S 15 (Int32.toNatClampNeg (S 0 19)))), some (.int s0)], [], gm_h (gm_u S 16 (Int32.toNatClampNeg (S 0 19)) s0), 0, 0) (gx_k [some (.ref 0), some (.int s0)] [] 32 bc bs (fun S9 => gx_X gm_P (d + 1) 11 S9 Q) Q)))) : gx_X gm_P (d + 1) 11 (7, [some (.ref 0), o1], [.int s0], gm_h S, bc, bs) Q := gx_X.bs [0, 7, 32] 15 (And.intro (k).1 (And.intro ((k).2).1 (⟨0, 0, ⟨Nat.zero_le _, Nat.zero_le _⟩, ((k).2).2⟩)))
theorem gb_newSequence_32 {d : Nat} {Q : gx_R → Prop} {bc bs : Nat} {S : Nat → Nat → Int32} {o1 : Option Value} (k : Q (.inl none, gm_h S)) : gx_X gm_P (d + 1) 11 (32, [some (.ref 0), o1], [], gm_h S, bc, bs) Q := gx_X.bs [0, 7, 32] 1 (k)
theorem gb_goesIn_0 {d : Nat} {Q : gx_R → Prop} {bc bs : Nat} {S : Nat → Nat → Int32} {a1 : Int32} (k : (vp_in ((S 0 19) + (1)) 8) ∧ (gx_X gm_P d 9 (0, [some (.ref 0), some (.int (10)), some (.int (-1)), none], [], gm_h (gm_u (gm_u S 0 19 ((S 0 19) + (1))) 17 (Int32.toNatClampNeg ((S 0 19) + (1))) a1), 0, 0) (gx_k [some (.ref 0), some (.int a1)] [.int ((S 0 19) + (1)), .ref 15] 35 bc bs (fun S9 => gx_X gm_P (d + 1) 12 S9 Q) Q))) : gx_X gm_P (d + 1) 12 (0, [some (.ref 0), some (.int a1)], [], gm_h S, bc, bs) Q := gx_X.bs [0, 35, 40] 20 (And.intro (k).1 (⟨0, 0, ⟨Nat.zero_le _, Nat.zero_le _⟩, (k).2⟩))
theorem gb_goesIn_35 {d : Nat} {Q : gx_R → Prop} {bc bs : Nat} {S : Nat → Nat → Int32} {o1 : Option Value} {s0 : Int32} {s1 : Int32} (k : (vp_in s1 8) ∧ (gx_X gm_P d 11 (0, [some (.ref 0), none], [], gm_h (gm_u S 15 (Int32.toNatClampNeg s1) s0), 0, 0) (gx_k [some (.ref 0), o1] [] 40 bc bs (fun S9 => gx_X gm_P (d + 1) 12 S9 Q) Q))) : gx_X gm_P (d + 1) 12 (35, [some (.ref 0), o1], [.int s0, .int s1, .ref 15], gm_h S, bc, bs) Q := gx_X.bs [0, 35, 40] 3 (And.intro (k).1 (⟨0, 0, ⟨Nat.zero_le _, Nat.zero_le _⟩, (k).2⟩))
theorem gb_goesIn_40 {d : Nat} {Q : gx_R → Prop} {bc bs : Nat} {S : Nat → Nat → Int32} {o1 : Option Value} (k : Q (.inl none, gm_h S)) : gx_X gm_P (d + 1) 12 (40, [some (.ref 0), o1], [], gm_h S, bc, bs) Q := gx_X.bs [0, 35, 40] 1 (k)
theorem gb_character_0 {d : Nat} {Q : gx_R → Prop} {bc bs : Nat} {S : Nat → Nat → Int32} {a1 : Int32} {a2 : Int32} {o3 : Option Value} (k : gx_X gm_P d 9 (0, [some (.ref 0), some (.int (0)), some (.int a1), none], [], gm_h S, 0, 0) (gx_k [some (.ref 0), some (.int a1), some (.int a2), o3] [] 6 bc bs (fun S9 => gx_X gm_P (d + 1) 13 S9 Q) Q)) : gx_X gm_P (d + 1) 13 (0, [some (.ref 0), some (.int a1), some (.int a2), o3], [], gm_h S, bc, bs) Q := gx_X.bs [0, 6] 4 (⟨0, 0, ⟨Nat.zero_le _, Nat.zero_le _⟩, k⟩)
theorem gb_character_6 {d : Nat} {Q : gx_R → Prop} {bc bs : Nat} {S : Nat → Nat → Int32} {o1 : Option Value} {a2 : Int32} {o3 : Option Value} {s0 : Int32} (k : (vp_in s0 200) ∧ (Q (.inl (some (.int s0)), gm_h (gm_u S 9 (Int32.toNatClampNeg s0) a2)))) : gx_X gm_P (d + 1) 13 (6, [some (.ref 0), o1, some (.int a2), o3], [.int s0], gm_h S, bc, bs) Q := gx_X.bs [0, 6] 8 (And.intro (k).1 ((k).2))
theorem gb_atom_0 {d : Nat} {Q : gx_R → Prop} {bc bs : Nat} {S : Nat → Nat → Int32} {o1 : Option Value} {o2 : Option Value} (k : gx_X gm_P d 7 (0, [some (.ref 0), some (.int (S 0 17))], [], gm_h S, 0, 0) (gx_k [some (.ref 0), o1, o2] [] 8 bc bs (fun S9 => gx_X gm_P (d + 1) 14 S9 Q) Q)) : gx_X gm_P (d + 1) 14 (0, [some (.ref 0), o1, o2], [], gm_h S, bc, bs) Q := gx_X.bs [0, 8, 13, 32, 56, 88, 89, 105, 135, 136, 152, 155, 168, 183, 186, 199, 215, 225, 228, 241] 4 (⟨0, 0, ⟨Nat.zero_le _, Nat.zero_le _⟩, k⟩)
theorem gb_atom_8 {d : Nat} {Q : gx_R → Prop} {bc bs : Nat} {S : Nat → Nat → Int32} {o1 : Option Value} {o2 : Option Value} {s0 : Int32} (k : gx_X gm_P d 8 (0, [some (.int s0)], [], gm_h S, 0, 0) (gx_k [some (.ref 0), some (.int s0), o2] [] 13 bc bs (fun S9 => gx_X gm_P (d + 1) 14 S9 Q) Q)) : gx_X gm_P (d + 1) 14 (8, [some (.ref 0), o1, o2], [.int s0], gm_h S, bc, bs) Q := gx_X.bs [0, 8, 13, 32, 56, 88, 89, 105, 135, 136, 152, 155, 168, 183, 186, 199, 215, 225, 228, 241] 3 (⟨0, 0, ⟨Nat.zero_le _, Nat.zero_le _⟩, k⟩)
theorem gb_atom_13 {d : Nat} {Q : gx_R → Prop} {bc bs : Nat} {S : Nat → Nat → Int32} {a1 : Int32} {o2 : Option Value} {s0 : Int32} (k : ((s0 = 0) → ((¬ a1 = (46)) → ((a1 < (65)) → gx_X gm_P (d + 1) 14 (89, [some (.ref 0), some (.int a1), o2], [], gm_h S, bc, bs) Q) ∧ ((¬ a1 < (65)) → (((68) < a1) → gx_X gm_P (d + 1) 14 (89, [some (.ref 0), some (.int a1), o2], [], gm_h S, bc, bs) Q) ∧ ((¬ (68) < a1) → gx_X gm_P d 9 (0, [some (.ref 0), some (.int (1)), some (.int (a1 - (65))), none], [], gm_h (gm_u S 0 17 ((S 0 17) + (1))), 0, 0) (gx_k [some (.ref 0), some (.int a1), o2] [] 88 bc bs (fun S9 => gx_X gm_P (d + 1) 14 S9 Q) Q)))) ∧ ((a1 = (46)) → gx_X gm_P d 13 (0, [some (.ref 0), some (.int (0)), some (.int (127)), none], [], gm_h (gm_u S 0 17 ((S 0 17) + (1))), 0, 0) (gx_k [some (.ref 0), some (.int a1), o2] [] 56 bc bs (fun S9 => gx_X gm_P (d + 1) 14 S9 Q) Q))) ∧ ((¬ s0 = 0) → gx_X gm_P d 13 (0, [some (.ref 0), some (.int a1), some (.int a1), none], [], gm_h (gm_u S 0 17 ((S 0 17) + (1))), 0, 0) (gx_k [some (.ref 0), some (.int a1), o2] [] 32 bc bs (fun S9 => gx_X gm_P (d + 1) 14 S9 Q) Q))) : gx_X gm_P (d + 1) 14 (13, [some (.ref 0), some (.int a1), o2], [.int s0], gm_h S, bc, bs) Q := gx_X.bs [0, 8, 13, 32, 56, 88, 89, 105, 135, 136, 152, 155, 168, 183, 186, 199, 215, 225, 228, 241] 22 (And.intro (fun h4 => And.intro (fun h3 => And.intro (fun h2 => ((((((k).1 h4)).1 h3)).1 h2)) (fun h2 => And.intro (fun h1 => ((((((((k).1 h4)).1 h3)).2 h2)).1 h1)) (fun h1 => ⟨0, 0, ⟨Nat.zero_le _, Nat.zero_le _⟩, ((((((((k).1 h4)).1 h3)).2 h2)).2 h1)⟩))) (fun h3 => ⟨0, 0, ⟨Nat.zero_le _, Nat.zero_le _⟩, ((((k).1 h4)).2 h3)⟩)) (fun h4 => ⟨0, 0, ⟨Nat.zero_le _, Nat.zero_le _⟩, ((k).2 h4)⟩))
theorem gb_atom_32 {d : Nat} {Q : gx_R → Prop} {bc bs : Nat} {S : Nat → Nat → Int32} {o1 : Option Value} {o2 : Option Value} {s0 : Int32} (k : Q (.inl (some (.int s0)), gm_h S)) : gx_X gm_P (d + 1) 14 (32, [some (.ref 0), o1, o2], [.int s0], gm_h S, bc, bs) Q := gx_X.bs [0, 8, 13, 32, 56, 88, 89, 105, 135, 136, 152, 155, 168, 183, 186, 199, 215, 225, 228, 241] 1 (k)
theorem gb_atom_56 {d : Nat} {Q : gx_R → Prop} {bc bs : Nat} {S : Nat → Nat → Int32} {o1 : Option Value} {o2 : Option Value} {s0 : Int32} (k : Q (.inl (some (.int s0)), gm_h S)) : gx_X gm_P (d + 1) 14 (56, [some (.ref 0), o1, o2], [.int s0], gm_h S, bc, bs) Q := gx_X.bs [0, 8, 13, 32, 56, 88, 89, 105, 135, 136, 152, 155, 168, 183, 186, 199, 215, 225, 228, 241] 1 (k)
theorem gb_atom_88 {d : Nat} {Q : gx_R → Prop} {bc bs : Nat} {S : Nat → Nat → Int32} {o1 : Option Value} {o2 : Option Value} {s0 : Int32} (k : Q (.inl (some (.int s0)), gm_h S)) : gx_X gm_P (d + 1) 14 (88, [some (.ref 0), o1, o2], [.int s0], gm_h S, bc, bs) Q := gx_X.bs [0, 8, 13, 32, 56, 88, 89, 105, 135, 136, 152, 155, 168, 183, 186, 199, 215, 225, 228, 241] 1 (k)
theorem gb_atom_89 {d : Nat} {Q : gx_R → Prop} {bc bs : Nat} {S : Nat → Nat → Int32} {a1 : Int32} {o2 : Option Value} (k : ((¬ a1 = (123)) → gx_X gm_P (d + 1) 14 (136, [some (.ref 0), some (.int a1), o2], [], gm_h S, bc, bs) Q) ∧ ((a1 = (123)) → gx_X gm_P d 7 (0, [some (.ref 0), some (.int ((S 0 17) + (1)))], [], gm_h S, 0, 0) (gx_k [some (.ref 0), some (.int a1), o2] [] 105 bc bs (fun S9 => gx_X gm_P (d + 1) 14 S9 Q) Q))) : gx_X gm_P (d + 1) 14 (89, [some (.ref 0), some (.int a1), o2], [], gm_h S, bc, bs) Q := gx_X.bs [0, 8, 13, 32, 56, 88, 89, 105, 135, 136, 152, 155, 168, 183, 186, 199, 215, 225, 228, 241] 9 (And.intro (fun h1 => ((k).1 h1)) (fun h1 => ⟨0, 0, ⟨Nat.zero_le _, Nat.zero_le _⟩, ((k).2 h1)⟩))
theorem gb_atom_105 {d : Nat} {Q : gx_R → Prop} {bc bs : Nat} {S : Nat → Nat → Int32} {a1 : Int32} {o2 : Option Value} {s0 : Int32} (k : ((¬ s0 = (125)) → gx_X gm_P (d + 1) 14 (136, [some (.ref 0), some (.int a1), o2], [], gm_h S, bc, bs) Q) ∧ ((s0 = (125)) → ((¬ (S 0 19) < (6)) → gx_X gm_P (d + 1) 14 (136, [some (.ref 0), some (.int a1), o2], [], gm_h S, bc, bs) Q) ∧ (((S 0 19) < (6)) → gx_X gm_P d 9 (0, [some (.ref 0), some (.int (2)), some (.int (0)), none], [], gm_h (gm_u S 0 17 ((S 0 17) + (2))), 0, 0) (gx_k [some (.ref 0), some (.int a1), o2] [] 135 bc bs (fun S9 => gx_X gm_P (d + 1) 14 S9 Q) Q)))) : gx_X gm_P (d + 1) 14 (105, [some (.ref 0), some (.int a1), o2], [.int s0], gm_h S, bc, bs) Q := gx_X.bs [0, 8, 13, 32, 56, 88, 89, 105, 135, 136, 152, 155, 168, 183, 186, 199, 215, 225, 228, 241] 16 (And.intro (fun h2 => ((k).1 h2)) (fun h2 => And.intro (fun h1 => ((((k).2 h2)).1 h1)) (fun h1 => ⟨0, 0, ⟨Nat.zero_le _, Nat.zero_le _⟩, ((((k).2 h2)).2 h1)⟩)))
theorem gb_atom_135 {d : Nat} {Q : gx_R → Prop} {bc bs : Nat} {S : Nat → Nat → Int32} {o1 : Option Value} {o2 : Option Value} {s0 : Int32} (k : Q (.inl (some (.int s0)), gm_h S)) : gx_X gm_P (d + 1) 14 (135, [some (.ref 0), o1, o2], [.int s0], gm_h S, bc, bs) Q := gx_X.bs [0, 8, 13, 32, 56, 88, 89, 105, 135, 136, 152, 155, 168, 183, 186, 199, 215, 225, 228, 241] 1 (k)
theorem gb_atom_136 {d : Nat} {Q : gx_R → Prop} {bc bs : Nat} {S : Nat → Nat → Int32} {a1 : Int32} {o2 : Option Value} (k : ((¬ a1 = (91)) → gx_X gm_P (d + 1) 14 (241, [some (.ref 0), some (.int a1), o2], [], gm_h S, bc, bs) Q) ∧ ((a1 = (91)) → gx_X gm_P d 7 (0, [some (.ref 0), some (.int ((S 0 17) + (1)))], [], gm_h S, 0, 0) (gx_k [some (.ref 0), some (.int a1), o2] [] 152 bc bs (fun S9 => gx_X gm_P (d + 1) 14 S9 Q) Q))) : gx_X gm_P (d + 1) 14 (136, [some (.ref 0), some (.int a1), o2], [], gm_h S, bc, bs) Q := gx_X.bs [0, 8, 13, 32, 56, 88, 89, 105, 135, 136, 152, 155, 168, 183, 186, 199, 215, 225, 228, 241] 9 (And.intro (fun h1 => ((k).1 h1)) (fun h1 => ⟨0, 0, ⟨Nat.zero_le _, Nat.zero_le _⟩, ((k).2 h1)⟩))
theorem gb_atom_152 {d : Nat} {Q : gx_R → Prop} {bc bs : Nat} {S : Nat → Nat → Int32} {o1 : Option Value} {o2 : Option Value} {s0 : Int32} (k : gx_X gm_P d 8 (0, [some (.int s0)], [], gm_h S, 0, 0) (gx_k [some (.ref 0), o1, o2] [] 155 bc bs (fun S9 => gx_X gm_P (d + 1) 14 S9 Q) Q)) : gx_X gm_P (d + 1) 14 (152, [some (.ref 0), o1, o2], [.int s0], gm_h S, bc, bs) Q := gx_X.bs [0, 8, 13, 32, 56, 88, 89, 105, 135, 136, 152, 155, 168, 183, 186, 199, 215, 225, 228, 241] 1 (⟨0, 0, ⟨Nat.zero_le _, Nat.zero_le _⟩, k⟩)
theorem gb_atom_155 {d : Nat} {Q : gx_R → Prop} {bc bs : Nat} {S : Nat → Nat → Int32} {o1 : Option Value} {o2 : Option Value} {s0 : Int32} (k : ((s0 = 0) → gx_X gm_P (d + 1) 14 (241, [some (.ref 0), o1, o2], [], gm_h S, bc, bs) Q) ∧ ((¬ s0 = 0) → gx_X gm_P d 7 (0, [some (.ref 0), some (.int ((S 0 17) + (2)))], [], gm_h S, 0, 0) (gx_k [some (.ref 0), o1, o2] [] 168 bc bs (fun S9 => gx_X gm_P (d + 1) 14 S9 Q) Q))) : gx_X gm_P (d + 1) 14 (155, [some (.ref 0), o1, o2], [.int s0], gm_h S, bc, bs) Q := gx_X.bs [0, 8, 13, 32, 56, 88, 89, 105, 135, 136, 152, 155, 168, 183, 186, 199, 215, 225, 228, 241] 7 (And.intro (fun h1 => ((k).1 h1)) (fun h1 => ⟨0, 0, ⟨Nat.zero_le _, Nat.zero_le _⟩, ((k).2 h1)⟩))
theorem gb_atom_168 {d : Nat} {Q : gx_R → Prop} {bc bs : Nat} {S : Nat → Nat → Int32} {o1 : Option Value} {o2 : Option Value} {s0 : Int32} (k : ((¬ s0 = (45)) → gx_X gm_P (d + 1) 14 (241, [some (.ref 0), o1, o2], [], gm_h S, bc, bs) Q) ∧ ((s0 = (45)) → gx_X gm_P d 7 (0, [some (.ref 0), some (.int ((S 0 17) + (3)))], [], gm_h S, 0, 0) (gx_k [some (.ref 0), o1, o2] [] 183 bc bs (fun S9 => gx_X gm_P (d + 1) 14 S9 Q) Q))) : gx_X gm_P (d + 1) 14 (168, [some (.ref 0), o1, o2], [.int s0], gm_h S, bc, bs) Q := gx_X.bs [0, 8, 13, 32, 56, 88, 89, 105, 135, 136, 152, 155, 168, 183, 186, 199, 215, 225, 228, 241] 8 (And.intro (fun h1 => ((k).1 h1)) (fun h1 => ⟨0, 0, ⟨Nat.zero_le _, Nat.zero_le _⟩, ((k).2 h1)⟩))
theorem gb_atom_183 {d : Nat} {Q : gx_R → Prop} {bc bs : Nat} {S : Nat → Nat → Int32} {o1 : Option Value} {o2 : Option Value} {s0 : Int32} (k : gx_X gm_P d 8 (0, [some (.int s0)], [], gm_h S, 0, 0) (gx_k [some (.ref 0), o1, o2] [] 186 bc bs (fun S9 => gx_X gm_P (d + 1) 14 S9 Q) Q)) : gx_X gm_P (d + 1) 14 (183, [some (.ref 0), o1, o2], [.int s0], gm_h S, bc, bs) Q := gx_X.bs [0, 8, 13, 32, 56, 88, 89, 105, 135, 136, 152, 155, 168, 183, 186, 199, 215, 225, 228, 241] 1 (⟨0, 0, ⟨Nat.zero_le _, Nat.zero_le _⟩, k⟩)
theorem gb_atom_186 {d : Nat} {Q : gx_R → Prop} {bc bs : Nat} {S : Nat → Nat → Int32} {o1 : Option Value} {o2 : Option Value} {s0 : Int32} (k : ((s0 = 0) → gx_X gm_P (d + 1) 14 (241, [some (.ref 0), o1, o2], [], gm_h S, bc, bs) Q) ∧ ((¬ s0 = 0) → gx_X gm_P d 7 (0, [some (.ref 0), some (.int ((S 0 17) + (4)))], [], gm_h S, 0, 0) (gx_k [some (.ref 0), o1, o2] [] 199 bc bs (fun S9 => gx_X gm_P (d + 1) 14 S9 Q) Q))) : gx_X gm_P (d + 1) 14 (186, [some (.ref 0), o1, o2], [.int s0], gm_h S, bc, bs) Q := gx_X.bs [0, 8, 13, 32, 56, 88, 89, 105, 135, 136, 152, 155, 168, 183, 186, 199, 215, 225, 228, 241] 7 (And.intro (fun h1 => ((k).1 h1)) (fun h1 => ⟨0, 0, ⟨Nat.zero_le _, Nat.zero_le _⟩, ((k).2 h1)⟩))
theorem gb_atom_199 {d : Nat} {Q : gx_R → Prop} {bc bs : Nat} {S : Nat → Nat → Int32} {o1 : Option Value} {o2 : Option Value} {s0 : Int32} (k : ((¬ s0 = (93)) → gx_X gm_P (d + 1) 14 (241, [some (.ref 0), o1, o2], [], gm_h S, bc, bs) Q) ∧ ((s0 = (93)) → gx_X gm_P d 7 (0, [some (.ref 0), some (.int ((S 0 17) + (1)))], [], gm_h S, 0, 0) (gx_k [some (.ref 0), o1, o2] [.ref 0] 215 bc bs (fun S9 => gx_X gm_P (d + 1) 14 S9 Q) Q))) : gx_X gm_P (d + 1) 14 (199, [some (.ref 0), o1, o2], [.int s0], gm_h S, bc, bs) Q := gx_X.bs [0, 8, 13, 32, 56, 88, 89, 105, 135, 136, 152, 155, 168, 183, 186, 199, 215, 225, 228, 241] 9 (And.intro (fun h1 => ((k).1 h1)) (fun h1 => ⟨0, 0, ⟨Nat.zero_le _, Nat.zero_le _⟩, ((k).2 h1)⟩))
theorem gb_atom_215 {d : Nat} {Q : gx_R → Prop} {bc bs : Nat} {S : Nat → Nat → Int32} {o1 : Option Value} {o2 : Option Value} {s0 : Int32} (k : gx_X gm_P d 7 (0, [some (.ref 0), some (.int ((S 0 17) + (3)))], [], gm_h S, 0, 0) (gx_k [some (.ref 0), o1, o2] [.int s0, .ref 0] 225 bc bs (fun S9 => gx_X gm_P (d + 1) 14 S9 Q) Q)) : gx_X gm_P (d + 1) 14 (215, [some (.ref 0), o1, o2], [.int s0, .ref 0], gm_h S, bc, bs) Q := gx_X.bs [0, 8, 13, 32, 56, 88, 89, 105, 135, 136, 152, 155, 168, 183, 186, 199, 215, 225, 228, 241] 6 (⟨0, 0, ⟨Nat.zero_le _, Nat.zero_le _⟩, k⟩)
theorem gb_atom_225 {d : Nat} {Q : gx_R → Prop} {bc bs : Nat} {S : Nat → Nat → Int32} {o1 : Option Value} {o2 : Option Value} {s0 : Int32} {s1 : Int32} (k : gx_X gm_P d 13 (0, [some (.ref 0), some (.int s1), some (.int s0), none], [], gm_h S, 0, 0) (gx_k [some (.ref 0), o1, o2] [] 228 bc bs (fun S9 => gx_X gm_P (d + 1) 14 S9 Q) Q)) : gx_X gm_P (d + 1) 14 (225, [some (.ref 0), o1, o2], [.int s0, .int s1, .ref 0], gm_h S, bc, bs) Q := gx_X.bs [0, 8, 13, 32, 56, 88, 89, 105, 135, 136, 152, 155, 168, 183, 186, 199, 215, 225, 228, 241] 1 (⟨0, 0, ⟨Nat.zero_le _, Nat.zero_le _⟩, k⟩)
theorem gb_atom_228 {d : Nat} {Q : gx_R → Prop} {bc bs : Nat} {S : Nat → Nat → Int32} {o1 : Option Value} {o2 : Option Value} {s0 : Int32} (k : Q (.inl (some (.int s0)), gm_h (gm_u S 0 17 ((S 0 17) + (5))))) : gx_X gm_P (d + 1) 14 (228, [some (.ref 0), o1, o2], [.int s0], gm_h S, bc, bs) Q := gx_X.bs [0, 8, 13, 32, 56, 88, 89, 105, 135, 136, 152, 155, 168, 183, 186, 199, 215, 225, 228, 241] 9 (k)
theorem gb_atom_241 {d : Nat} {Q : gx_R → Prop} {bc bs : Nat} {S : Nat → Nat → Int32} {o1 : Option Value} {o2 : Option Value} (k : Q (.inl (some (.int (-1))), gm_h S)) : gx_X gm_P (d + 1) 14 (241, [some (.ref 0), o1, o2], [], gm_h S, bc, bs) Q := gx_X.bs [0, 8, 13, 32, 56, 88, 89, 105, 135, 136, 152, 155, 168, 183, 186, 199, 215, 225, 228, 241] 2 (k)
theorem gb_take_0 {d : Nat} {Q : gx_R → Prop} {bc bs : Nat} {S : Nat → Nat → Int32} {a1 : Int32} {o2 : Option Value} {o3 : Option Value} {o4 : Option Value} (k : gx_X gm_P d 7 (0, [some (.ref 0), some (.int (S 0 17))], [], gm_h S, 0, 0) (gx_k [some (.ref 0), some (.int a1), some (.int a1), o3, o4] [] 10 bc bs (fun S9 => gx_X gm_P (d + 1) 15 S9 Q) Q)) : gx_X gm_P (d + 1) 15 (0, [some (.ref 0), some (.int a1), o2, o3, o4], [], gm_h S, bc, bs) Q := gx_X.bs [0, 10, 29, 52, 56, 67, 80, 114, 118, 139] 6 (⟨0, 0, ⟨Nat.zero_le _, Nat.zero_le _⟩, k⟩)
theorem gb_take_10 {d : Nat} {Q : gx_R → Prop} {bc bs : Nat} {S : Nat → Nat → Int32} {o1 : Option Value} {a2 : Int32} {o3 : Option Value} {o4 : Option Value} {s0 : Int32} (k : ((s0 = (42)) → gx_X gm_P (d + 1) 15 (29, [some (.ref 0), o1, some (.int a2), some (.int s0), o4], [], gm_h S, bc, bs) Q) ∧ ((¬ s0 = (42)) → ((s0 = (43)) → gx_X gm_P (d + 1) 15 (29, [some (.ref 0), o1, some (.int a2), some (.int s0), o4], [], gm_h S, bc, bs) Q) ∧ ((¬ s0 = (43)) → ((¬ s0 = (63)) → gx_X gm_P (d + 1) 15 (67, [some (.ref 0), o1, some (.int a2), some (.int s0), o4], [], gm_h S, bc, bs) Q) ∧ ((s0 = (63)) → gx_X gm_P (d + 1) 15 (29, [some (.ref 0), o1, some (.int a2), some (.int s0), o4], [], gm_h S, bc, bs) Q)))) : gx_X gm_P (d + 1) 15 (10, [some (.ref 0), o1, some (.int a2), o3, o4], [.int s0], gm_h S, bc, bs) Q := gx_X.bs [0, 10, 29, 52, 56, 67, 80, 114, 118, 139] 11 (And.intro (fun h3 => ((k).1 h3)) (fun h3 => And.intro (fun h2 => ((((k).2 h3)).1 h2)) (fun h2 => And.intro (fun h1 => ((((((k).2 h3)).2 h2)).1 h1)) (fun h1 => ((((((k).2 h3)).2 h2)).2 h1)))))
theorem gb_take_29 {d : Nat} {Q : gx_R → Prop} {bc bs : Nat} {S : Nat → Nat → Int32} {o1 : Option Value} {a2 : Int32} {a3 : Int32} {o4 : Option Value} (k : ((¬ a3 = (42)) → ((¬ a3 = (43)) → gx_X gm_P (d + 1) 15 (52, [some (.ref 0), o1, some (.int a2), some (.int a3), o4], [.int (6), .ref 0], gm_h S, bc, bs) Q) ∧ ((a3 = (43)) → gx_X gm_P (d + 1) 15 (52, [some (.ref 0), o1, some (.int a2), some (.int a3), o4], [.int (5), .ref 0], gm_h S, bc, bs) Q)) ∧ ((a3 = (42)) → gx_X gm_P (d + 1) 15 (52, [some (.ref 0), o1, some (.int a2), some (.int a3), o4], [.int (4), .ref 0], gm_h S, bc, bs) Q)) : gx_X gm_P (d + 1) 15 (29, [some (.ref 0), o1, some (.int a2), some (.int a3), o4], [], gm_h S, bc, bs) Q := gx_X.bs [0, 10, 29, 52, 56, 67, 80, 114, 118, 139] 10 (And.intro (fun h2 => And.intro (fun h1 => ((((k).1 h2)).1 h1)) (fun h1 => ((((k).1 h2)).2 h1))) (fun h2 => ((k).2 h2)))
theorem gb_take_52 {d : Nat} {Q : gx_R → Prop} {bc bs : Nat} {S : Nat → Nat → Int32} {o1 : Option Value} {a2 : Int32} {o3 : Option Value} {o4 : Option Value} {s0 : Int32} (k : gx_X gm_P d 9 (0, [some (.ref 0), some (.int s0), some (.int a2), none], [], gm_h S, 0, 0) (gx_k [some (.ref 0), o1, some (.int a2), o3, o4] [] 56 bc bs (fun S9 => gx_X gm_P (d + 1) 15 S9 Q) Q)) : gx_X gm_P (d + 1) 15 (52, [some (.ref 0), o1, some (.int a2), o3, o4], [.int s0, .ref 0], gm_h S, bc, bs) Q := gx_X.bs [0, 10, 29, 52, 56, 67, 80, 114, 118, 139] 2 (⟨0, 0, ⟨Nat.zero_le _, Nat.zero_le _⟩, k⟩)
theorem gb_take_56 {d : Nat} {Q : gx_R → Prop} {bc bs : Nat} {S : Nat → Nat → Int32} {o1 : Option Value} {o2 : Option Value} {o3 : Option Value} {o4 : Option Value} {s0 : Int32} (k : gx_X gm_P (d + 1) 15 (67, [some (.ref 0), o1, some (.int s0), o3, o4], [], gm_h (gm_u S 0 17 ((S 0 17) + (1))), bc, bs) Q) : gx_X gm_P (d + 1) 15 (56, [some (.ref 0), o1, o2, o3, o4], [.int s0], gm_h S, bc, bs) Q := gx_X.bs [0, 10, 29, 52, 56, 67, 80, 114, 118, 139] 8 (k)
theorem gb_take_67 {d : Nat} {Q : gx_R → Prop} {bc bs : Nat} {S : Nat → Nat → Int32} {o1 : Option Value} {a2 : Int32} {o3 : Option Value} {o4 : Option Value} (k : (vp_in (S 0 19) 8) ∧ (gx_X gm_P (d + 1) 15 (80, [some (.ref 0), o1, some (.int a2), o3, some (.int ((S 19 (Int32.toNatClampNeg (S 0 19))) - (1)))], [], gm_h S, bc, bs) Q)) : gx_X gm_P (d + 1) 15 (67, [some (.ref 0), o1, some (.int a2), o3, o4], [], gm_h S, bc, bs) Q := gx_X.bs [0, 10, 29, 52, 56, 67, 80, 114, 118, 139] 9 (And.intro (k).1 ((k).2))
theorem gb_take_80 {d : Nat} {Q : gx_R → Prop} {bc bs : Nat} {S : Nat → Nat → Int32} {o1 : Option Value} {a2 : Int32} {o3 : Option Value} {a4 : Int32} (k : (vp_in (S 0 19) 8) ∧ (((a4 < (S 18 (Int32.toNatClampNeg (S 0 19)))) → (vp_in (S 0 19) 8) ∧ (gx_X gm_P d 10 (0, [some (.ref 0), some (.int (S 16 (Int32.toNatClampNeg (S 0 19)))), some (.int a2)], [], gm_h S, 0, 0) (gx_k [some (.ref 0), o1, some (.int a2), o3, some (.int a4)] [] 139 bc bs (fun S9 => gx_X gm_P (d + 1) 15 S9 Q) Q))) ∧ ((¬ a4 < (S 18 (Int32.toNatClampNeg (S 0 19)))) → (vp_in a4 20) ∧ (((¬ (S 1 (Int32.toNatClampNeg a4)) = (38)) → gx_X gm_P (d + 1) 15 (114, [some (.ref 0), o1, some (.int a2), o3, some (.int a4)], [.int (8), .ref 0], gm_h S, bc, bs) Q) ∧ (((S 1 (Int32.toNatClampNeg a4)) = (38)) → gx_X gm_P (d + 1) 15 (114, [some (.ref 0), o1, some (.int a2), o3, some (.int a4)], [.int (7), .ref 0], gm_h S, bc, bs) Q))))) : gx_X gm_P (d + 1) 15 (80, [some (.ref 0), o1, some (.int a2), o3, some (.int a4)], [], gm_h S, bc, bs) Q := gx_X.bs [0, 10, 29, 52, 56, 67, 80, 114, 118, 139] 17 (And.intro (k).1 (And.intro (fun h2 => And.intro ((((k).2).1 h2)).1 (⟨0, 0, ⟨Nat.zero_le _, Nat.zero_le _⟩, ((((k).2).1 h2)).2⟩)) (fun h2 => And.intro ((((k).2).2 h2)).1 (And.intro (fun h1 => ((((((k).2).2 h2)).2).1 h1)) (fun h1 => ((((((k).2).2 h2)).2).2 h1))))))
theorem gb_take_114 {d : Nat} {Q : gx_R → Prop} {bc bs : Nat} {S : Nat → Nat → Int32} {o1 : Option Value} {a2 : Int32} {o3 : Option Value} {a4 : Int32} {s0 : Int32} (k : gx_X gm_P d 9 (0, [some (.ref 0), some (.int s0), some (.int a2), none], [], gm_h S, 0, 0) (gx_k [some (.ref 0), o1, some (.int a2), o3, some (.int a4)] [] 118 bc bs (fun S9 => gx_X gm_P (d + 1) 15 S9 Q) Q)) : gx_X gm_P (d + 1) 15 (114, [some (.ref 0), o1, some (.int a2), o3, some (.int a4)], [.int s0, .ref 0], gm_h S, bc, bs) Q := gx_X.bs [0, 10, 29, 52, 56, 67, 80, 114, 118, 139] 2 (⟨0, 0, ⟨Nat.zero_le _, Nat.zero_le _⟩, k⟩)
theorem gb_take_118 {d : Nat} {Q : gx_R → Prop} {bc bs : Nat} {S : Nat → Nat → Int32} {o1 : Option Value} {o2 : Option Value} {o3 : Option Value} {a4 : Int32} {s0 : Int32} (k : gx_X gm_P (d + 1) 15 (80, [some (.ref 0), o1, some (.int s0), o3, some (.int (a4 + Int32.ofInt (-1)))], [], gm_h S, bc, bs) Q) : gx_X gm_P (d + 1) 15 (118, [some (.ref 0), o1, o2, o3, some (.int a4)], [.int s0], gm_h S, bc, bs) Q := gx_X.bs [0, 10, 29, 52, 56, 67, 80, 114, 118, 139] 4 (k)
theorem gb_take_139 {d : Nat} {Q : gx_R → Prop} {bc bs : Nat} {S : Nat → Nat → Int32} {o1 : Option Value} {o2 : Option Value} {o3 : Option Value} {o4 : Option Value} (k : Q (.inl none, gm_h S)) : gx_X gm_P (d + 1) 15 (139, [some (.ref 0), o1, o2, o3, o4], [], gm_h S, bc, bs) Q := gx_X.bs [0, 10, 29, 52, 56, 67, 80, 114, 118, 139] 1 (k)
theorem gb_closeAll_0 {d : Nat} {Q : gx_R → Prop} {bc bs : Nat} {S : Nat → Nat → Int32} {o1 : Option Value} (k : ((¬ 0 < (S 0 19)) → gx_X gm_P (d + 1) 16 (102, [some (.ref 0), o1], [], gm_h S, bc, bs) Q) ∧ ((0 < (S 0 19)) → gx_X gm_P d 7 (0, [some (.ref 0), some (.int (S 0 17))], [], gm_h S, 0, 0) (gx_k [some (.ref 0), o1] [] 15 bc bs (fun S9 => gx_X gm_P (d + 1) 16 S9 Q) Q))) : gx_X gm_P (d + 1) 16 (0, [some (.ref 0), o1], [], gm_h S, bc, bs) Q := gx_X.bs [0, 15, 36, 69, 73, 99, 102] 7 (And.intro (fun h1 => ((k).1 h1)) (fun h1 => ⟨0, 0, ⟨Nat.zero_le _, Nat.zero_le _⟩, ((k).2 h1)⟩))
theorem gb_closeAll_15 {d : Nat} {Q : gx_R → Prop} {bc bs : Nat} {S : Nat → Nat → Int32} {o1 : Option Value} {s0 : Int32} (k : (vp_in (S 0 19) 8) ∧ (((¬ (S 17 (Int32.toNatClampNeg (S 0 19))) = (40)) → gx_X gm_P (d + 1) 16 (36, [some (.ref 0), o1], [.int (125), .int s0], gm_h S, bc, bs) Q) ∧ (((S 17 (Int32.toNatClampNeg (S 0 19))) = (40)) → gx_X gm_P (d + 1) 16 (36, [some (.ref 0), o1], [.int (41), .int s0], gm_h S, bc, bs) Q))) : gx_X gm_P (d + 1) 16 (15, [some (.ref 0), o1], [.int s0], gm_h S, bc, bs) Q := gx_X.bs [0, 15, 36, 69, 73, 99, 102] 10 (And.intro (k).1 (And.intro (fun h1 => (((k).2).1 h1)) (fun h1 => (((k).2).2 h1))))
theorem gb_closeAll_36 {d : Nat} {Q : gx_R → Prop} {bc bs : Nat} {S : Nat → Nat → Int32} {o1 : Option Value} {s0 : Int32} {s1 : Int32} (k : ((¬ s1 = s0) → gx_X gm_P (d + 1) 16 (102, [some (.ref 0), o1], [], gm_h S, bc, bs) Q) ∧ ((s1 = s0) → (vp_in (S 0 19) 8) ∧ ((vp_in (S 0 19) 8) ∧ (((¬ (S 17 (Int32.toNatClampNeg (S 0 19))) = (123)) → gx_X gm_P (d + 1) 16 (73, [some (.ref 0), some (.int (S 15 (Int32.toNatClampNeg (S 0 19))))], [.int (S 15 (Int32.toNatClampNeg (S 0 19)))], gm_h S, bc, bs) Q) ∧ (((S 17 (Int32.toNatClampNeg (S 0 19))) = (123)) → gx_X gm_P d 9 (0, [some (.ref 0), some (.int (3)), some (.int (S 15 (Int32.toNatClampNeg (S 0 19)))), none], [], gm_h S, 0, 0) (gx_k [some (.ref 0), some (.int (S 15 (Int32.toNatClampNeg (S 0 19))))] [] 69 bc bs (fun S9 => gx_X gm_P (d + 1) 16 S9 Q) Q)))))) : gx_X gm_P (d + 1) 16 (36, [some (.ref 0), o1], [.int s0, .int s1], gm_h S, bc, bs) Q := gx_X.bs [0, 15, 36, 69, 73, 99, 102] 18 (And.intro (fun h2 => ((k).1 h2)) (fun h2 => And.intro (((k).2 h2)).1 (And.intro ((((k).2 h2)).2).1 (And.intro (fun h1 => ((((((k).2 h2)).2).2).1 h1)) (fun h1 => ⟨0, 0, ⟨Nat.zero_le _, Nat.zero_le _⟩, ((((((k).2 h2)).2).2).2 h1)⟩)))))
theorem gb_closeAll_69 {d : Nat} {Q : gx_R → Prop} {bc bs : Nat} {S : Nat → Nat → Int32} {o1 : Option Value} {s0 : Int32} (k : gx_X gm_P (d + 1) 16 (73, [some (.ref 0), o1], [.int s0], gm_h S, bc, bs) Q) : gx_X gm_P (d + 1) 16 (69, [some (.ref 0), o1], [.int s0], gm_h S, bc, bs) Q := gx_X.bs [0, 15, 36, 69, 73, 99, 102] 2 (k)
theorem gb_closeAll_73 {d : Nat} {Q : gx_R → Prop} {bc bs : Nat} {S : Nat → Nat → Int32} {o1 : Option Value} {s0 : Int32} (k : gx_X gm_P d 15 (0, [some (.ref 0), some (.int s0), none, none, none], [], gm_h (gm_u (gm_u S 0 17 ((S 0 17) + (1))) 0 19 ((S 0 19) - (1))), 0, 0) (gx_k [some (.ref 0), some (.int s0)] [] 99 bc bs (fun S9 => gx_X gm_P (d + 1) 16 S9 Q) Q)) : gx_X gm_P (d + 1) 16 (73, [some (.ref 0), o1], [.int s0], gm_h S, bc, bs) Q := gx_X.bs [0, 15, 36, 69, 73, 99, 102] 16 (⟨0, 0, ⟨Nat.zero_le _, Nat.zero_le _⟩, k⟩)
theorem gb_closeAll_99 {d : Nat} {Q : gx_R → Prop} {bc bs : Nat} {S : Nat → Nat → Int32} {o1 : Option Value} (k : gx_X gm_P (d + 1) 16 (0, [some (.ref 0), o1], [], gm_h S, bc, bs) Q) : gx_X gm_P (d + 1) 16 (99, [some (.ref 0), o1], [], gm_h S, bc, bs) Q := gx_X.bs [0, 15, 36, 69, 73, 99, 102] 2 (k)
theorem gb_closeAll_102 {d : Nat} {Q : gx_R → Prop} {bc bs : Nat} {S : Nat → Nat → Int32} {o1 : Option Value} (k : Q (.inl none, gm_h S)) : gx_X gm_P (d + 1) 16 (102, [some (.ref 0), o1], [], gm_h S, bc, bs) Q := gx_X.bs [0, 15, 36, 69, 73, 99, 102] 1 (k)
theorem gb_readItem_0 {d : Nat} {Q : gx_R → Prop} {bc bs : Nat} {S : Nat → Nat → Int32} {o1 : Option Value} {o2 : Option Value} {o3 : Option Value} (k : (vp_in (S 0 19) 8) ∧ (gx_X gm_P (d + 1) 17 (13, [some (.ref 0), o1, o2, o3], [], gm_h (gm_u S 18 (Int32.toNatClampNeg (S 0 19)) (S 0 17)), bc, bs) Q)) : gx_X gm_P (d + 1) 17 (0, [some (.ref 0), o1, o2, o3], [], gm_h S, bc, bs) Q := gx_X.bs [0, 13, 21, 34, 39, 73, 90, 99, 100, 113, 132, 157, 158, 162, 173, 189, 193, 201, 220, 237, 240] 8 (And.intro (k).1 ((k).2))
theorem gb_readItem_13 {d : Nat} {Q : gx_R → Prop} {bc bs : Nat} {S : Nat → Nat → Int32} {o1 : Option Value} {o2 : Option Value} {o3 : Option Value} (k : gx_X gm_P d 7 (0, [some (.ref 0), some (.int (S 0 17))], [], gm_h S, 0, 0) (gx_k [some (.ref 0), o1, o2, o3] [] 21 bc bs (fun S9 => gx_X gm_P (d + 1) 17 S9 Q) Q)) : gx_X gm_P (d + 1) 17 (13, [some (.ref 0), o1, o2, o3], [], gm_h S, bc, bs) Q := gx_X.bs [0, 13, 21, 34, 39, 73, 90, 99, 100, 113, 132, 157, 158, 162, 173, 189, 193, 201, 220, 237, 240] 4 (⟨0, 0, ⟨Nat.zero_le _, Nat.zero_le _⟩, k⟩)
theorem gb_readItem_21 {d : Nat} {Q : gx_R → Prop} {bc bs : Nat} {S : Nat → Nat → Int32} {o1 : Option Value} {o2 : Option Value} {o3 : Option Value} {s0 : Int32} (k : ((s0 = (38)) → gx_X gm_P (d + 1) 17 (39, [some (.ref 0), o1, o2, o3], [], gm_h S, bc, bs) Q) ∧ ((¬ s0 = (38)) → gx_X gm_P d 7 (0, [some (.ref 0), some (.int (S 0 17))], [], gm_h S, 0, 0) (gx_k [some (.ref 0), o1, o2, o3] [] 34 bc bs (fun S9 => gx_X gm_P (d + 1) 17 S9 Q) Q))) : gx_X gm_P (d + 1) 17 (21, [some (.ref 0), o1, o2, o3], [.int s0], gm_h S, bc, bs) Q := gx_X.bs [0, 13, 21, 34, 39, 73, 90, 99, 100, 113, 132, 157, 158, 162, 173, 189, 193, 201, 220, 237, 240] 6 (And.intro (fun h1 => ((k).1 h1)) (fun h1 => ⟨0, 0, ⟨Nat.zero_le _, Nat.zero_le _⟩, ((k).2 h1)⟩))
theorem gb_readItem_34 {d : Nat} {Q : gx_R → Prop} {bc bs : Nat} {S : Nat → Nat → Int32} {o1 : Option Value} {o2 : Option Value} {o3 : Option Value} {s0 : Int32} (k : ((¬ s0 = (33)) → (vp_in (S 0 19) 8) ∧ (gx_X gm_P d 7 (0, [some (.ref 0), some (.int (S 0 17))], [], gm_h (gm_u S 19 (Int32.toNatClampNeg (S 0 19)) (S 0 17)), 0, 0) (gx_k [some (.ref 0), o1, o2, o3] [] 73 bc bs (fun S9 => gx_X gm_P (d + 1) 17 S9 Q) Q))) ∧ ((s0 = (33)) → gx_X gm_P (d + 1) 17 (39, [some (.ref 0), o1, o2, o3], [], gm_h S, bc, bs) Q)) : gx_X gm_P (d + 1) 17 (34, [some (.ref 0), o1, o2, o3], [.int s0], gm_h S, bc, bs) Q := gx_X.bs [0, 13, 21, 34, 39, 73, 90, 99, 100, 113, 132, 157, 158, 162, 173, 189, 193, 201, 220, 237, 240] 13 (And.intro (fun h1 => And.intro (((k).1 h1)).1 (⟨0, 0, ⟨Nat.zero_le _, Nat.zero_le _⟩, (((k).1 h1)).2⟩)) (fun h1 => ((k).2 h1)))
theorem gb_readItem_39 {d : Nat} {Q : gx_R → Prop} {bc bs : Nat} {S : Nat → Nat → Int32} {o1 : Option Value} {o2 : Option Value} {o3 : Option Value} (k : gx_X gm_P (d + 1) 17 (13, [some (.ref 0), o1, o2, o3], [], gm_h (gm_u S 0 17 ((S 0 17) + (1))), bc, bs) Q) : gx_X gm_P (d + 1) 17 (39, [some (.ref 0), o1, o2, o3], [], gm_h S, bc, bs) Q := gx_X.bs [0, 13, 21, 34, 39, 73, 90, 99, 100, 113, 132, 157, 158, 162, 173, 189, 193, 201, 220, 237, 240] 8 (k)
theorem gb_readItem_73 {d : Nat} {Q : gx_R → Prop} {bc bs : Nat} {S : Nat → Nat → Int32} {o1 : Option Value} {o2 : Option Value} {o3 : Option Value} {s0 : Int32} (k : ((¬ s0 = (123)) → gx_X gm_P (d + 1) 17 (99, [some (.ref 0), some (.int s0), o2, o3], [], gm_h S, bc, bs) Q) ∧ ((s0 = (123)) → gx_X gm_P d 7 (0, [some (.ref 0), some (.int ((S 0 17) + (1)))], [], gm_h S, 0, 0) (gx_k [some (.ref 0), some (.int s0), o2, o3] [] 90 bc bs (fun S9 => gx_X gm_P (d + 1) 17 S9 Q) Q))) : gx_X gm_P (d + 1) 17 (73, [some (.ref 0), o1, o2, o3], [.int s0], gm_h S, bc, bs) Q := gx_X.bs [0, 13, 21, 34, 39, 73, 90, 99, 100, 113, 132, 157, 158, 162, 173, 189, 193, 201, 220, 237, 240] 10 (And.intro (fun h1 => ((k).1 h1)) (fun h1 => ⟨0, 0, ⟨Nat.zero_le _, Nat.zero_le _⟩, ((k).2 h1)⟩))
theorem gb_readItem_90 {d : Nat} {Q : gx_R → Prop} {bc bs : Nat} {S : Nat → Nat → Int32} {a1 : Int32} {o2 : Option Value} {o3 : Option Value} {s0 : Int32} (k : ((¬ s0 = (125)) → gx_X gm_P (d + 1) 17 (99, [some (.ref 0), some (.int a1), o2, o3], [], gm_h S, bc, bs) Q) ∧ ((s0 = (125)) → gx_X gm_P (d + 1) 17 (100, [some (.ref 0), some (.int a1), o2, o3], [.int (1)], gm_h S, bc, bs) Q)) : gx_X gm_P (d + 1) 17 (90, [some (.ref 0), some (.int a1), o2, o3], [.int s0], gm_h S, bc, bs) Q := gx_X.bs [0, 13, 21, 34, 39, 73, 90, 99, 100, 113, 132, 157, 158, 162, 173, 189, 193, 201, 220, 237, 240] 5 (And.intro (fun h1 => ((k).1 h1)) (fun h1 => ((k).2 h1)))
theorem gb_readItem_99 {d : Nat} {Q : gx_R → Prop} {bc bs : Nat} {S : Nat → Nat → Int32} {a1 : Int32} {o2 : Option Value} {o3 : Option Value} (k : gx_X gm_P (d + 1) 17 (100, [some (.ref 0), some (.int a1), o2, o3], [.int (0)], gm_h S, bc, bs) Q) : gx_X gm_P (d + 1) 17 (99, [some (.ref 0), some (.int a1), o2, o3], [], gm_h S, bc, bs) Q := gx_X.bs [0, 13, 21, 34, 39, 73, 90, 99, 100, 113, 132, 157, 158, 162, 173, 189, 193, 201, 220, 237, 240] 2 (k)
theorem gb_readItem_100 {d : Nat} {Q : gx_R → Prop} {bc bs : Nat} {S : Nat → Nat → Int32} {a1 : Int32} {o2 : Option Value} {o3 : Option Value} {s0 : Int32} (k : ((a1 = (40)) → gx_X gm_P (d + 1) 17 (113, [some (.ref 0), some (.int a1), some (.int s0), o3], [], gm_h S, bc, bs) Q) ∧ ((¬ a1 = (40)) → ((¬ a1 = (123)) → gx_X gm_P (d + 1) 17 (158, [some (.ref 0), some (.int a1), some (.int s0), o3], [], gm_h S, bc, bs) Q) ∧ ((a1 = (123)) → gx_X gm_P (d + 1) 17 (113, [some (.ref 0), some (.int a1), some (.int s0), o3], [], gm_h S, bc, bs) Q))) : gx_X gm_P (d + 1) 17 (100, [some (.ref 0), some (.int a1), o2, o3], [.int s0], gm_h S, bc, bs) Q := gx_X.bs [0, 13, 21, 34, 39, 73, 90, 99, 100, 113, 132, 157, 158, 162, 173, 189, 193, 201, 220, 237, 240] 8 (And.intro (fun h2 => ((k).1 h2)) (fun h2 => And.intro (fun h1 => ((((k).2 h2)).1 h1)) (fun h1 => ((((k).2 h2)).2 h1))))
theorem gb_readItem_113 {d : Nat} {Q : gx_R → Prop} {bc bs : Nat} {S : Nat → Nat → Int32} {a1 : Int32} {a2 : Int32} {o3 : Option Value} (k : ((¬ a2 = 0) → gx_X gm_P (d + 1) 17 (158, [some (.ref 0), some (.int a1), some (.int a2), o3], [], gm_h S, bc, bs) Q) ∧ ((a2 = 0) → (((S 0 19) < (6)) → gx_X gm_P (d + 1) 17 (132, [some (.ref 0), some (.int a1), some (.int a2), o3], [.int (0), .ref 0], gm_h S, bc, bs) Q) ∧ ((¬ (S 0 19) < (6)) → gx_X gm_P (d + 1) 17 (132, [some (.ref 0), some (.int a1), some (.int a2), o3], [.int (1), .ref 0], gm_h S, bc, bs) Q))) : gx_X gm_P (d + 1) 17 (113, [some (.ref 0), some (.int a1), some (.int a2), o3], [], gm_h S, bc, bs) Q := gx_X.bs [0, 13, 21, 34, 39, 73, 90, 99, 100, 113, 132, 157, 158, 162, 173, 189, 193, 201, 220, 237, 240] 10 (And.intro (fun h2 => ((k).1 h2)) (fun h2 => And.intro (fun h1 => ((((k).2 h2)).1 h1)) (fun h1 => ((((k).2 h2)).2 h1))))
theorem gb_readItem_132 {d : Nat} {Q : gx_R → Prop} {bc bs : Nat} {S : Nat → Nat → Int32} {a1 : Int32} {o2 : Option Value} {o3 : Option Value} {s0 : Int32} (k : (narrow .boolean (.int s0) = .int s0 ∧ fits .boolean (.int s0) = true) ∧ (((¬ s0 = 0) → gx_X gm_P (d + 1) 17 (157, [some (.ref 0), some (.int a1), o2, o3], [], gm_h (gm_u (gm_u S 0 18 s0) 0 17 ((S 0 17) + (1))), bc, bs) Q) ∧ ((s0 = 0) → gx_X gm_P d 12 (0, [some (.ref 0), some (.int a1)], [], gm_h (gm_u (gm_u S 0 18 s0) 0 17 ((S 0 17) + (1))), 0, 0) (gx_k [some (.ref 0), some (.int a1), o2, o3] [] 157 bc bs (fun S9 => gx_X gm_P (d + 1) 17 S9 Q) Q)))) : gx_X gm_P (d + 1) 17 (132, [some (.ref 0), some (.int a1), o2, o3], [.int s0, .ref 0], gm_h S, bc, bs) Q := gx_X.bs [0, 13, 21, 34, 39, 73, 90, 99, 100, 113, 132, 157, 158, 162, 173, 189, 193, 201, 220, 237, 240] 13 (And.intro (k).1 (And.intro (fun h1 => (((k).2).1 h1)) (fun h1 => ⟨0, 0, ⟨Nat.zero_le _, Nat.zero_le _⟩, (((k).2).2 h1)⟩)))
theorem gb_readItem_157 {d : Nat} {Q : gx_R → Prop} {bc bs : Nat} {S : Nat → Nat → Int32} {o1 : Option Value} {o2 : Option Value} {o3 : Option Value} (k : Q (.inl none, gm_h S)) : gx_X gm_P (d + 1) 17 (157, [some (.ref 0), o1, o2, o3], [], gm_h S, bc, bs) Q := gx_X.bs [0, 13, 21, 34, 39, 73, 90, 99, 100, 113, 132, 157, 158, 162, 173, 189, 193, 201, 220, 237, 240] 1 (k)
theorem gb_readItem_158 {d : Nat} {Q : gx_R → Prop} {bc bs : Nat} {S : Nat → Nat → Int32} {o1 : Option Value} {o2 : Option Value} {o3 : Option Value} (k : gx_X gm_P d 14 (0, [some (.ref 0), none, none], [], gm_h S, 0, 0) (gx_k [some (.ref 0), o1, o2, o3] [] 162 bc bs (fun S9 => gx_X gm_P (d + 1) 17 S9 Q) Q)) : gx_X gm_P (d + 1) 17 (158, [some (.ref 0), o1, o2, o3], [], gm_h S, bc, bs) Q := gx_X.bs [0, 13, 21, 34, 39, 73, 90, 99, 100, 113, 132, 157, 158, 162, 173, 189, 193, 201, 220, 237, 240] 2 (⟨0, 0, ⟨Nat.zero_le _, Nat.zero_le _⟩, k⟩)
theorem gb_readItem_162 {d : Nat} {Q : gx_R → Prop} {bc bs : Nat} {S : Nat → Nat → Int32} {o1 : Option Value} {o2 : Option Value} {o3 : Option Value} {s0 : Int32} (k : ((¬ s0 < 0) → gx_X gm_P (d + 1) 17 (173, [some (.ref 0), o1, o2, some (.int s0)], [.int (0), .ref 0], gm_h S, bc, bs) Q) ∧ ((s0 < 0) → gx_X gm_P (d + 1) 17 (173, [some (.ref 0), o1, o2, some (.int s0)], [.int (1), .ref 0], gm_h S, bc, bs) Q)) : gx_X gm_P (d + 1) 17 (162, [some (.ref 0), o1, o2, o3], [.int s0], gm_h S, bc, bs) Q := gx_X.bs [0, 13, 21, 34, 39, 73, 90, 99, 100, 113, 132, 157, 158, 162, 173, 189, 193, 201, 220, 237, 240] 7 (And.intro (fun h1 => ((k).1 h1)) (fun h1 => ((k).2 h1)))
theorem gb_readItem_173 {d : Nat} {Q : gx_R → Prop} {bc bs : Nat} {S : Nat → Nat → Int32} {o1 : Option Value} {o2 : Option Value} {a3 : Int32} {s0 : Int32} (k : (narrow .boolean (.int s0) = .int s0 ∧ fits .boolean (.int s0) = true) ∧ (((s0 = 0) → gx_X gm_P d 15 (0, [some (.ref 0), some (.int a3), none, none, none], [], gm_h (gm_u S 0 18 s0), 0, 0) (gx_k [some (.ref 0), o1, o2, some (.int a3)] [] 189 bc bs (fun S9 => gx_X gm_P (d + 1) 17 S9 Q) Q)) ∧ ((¬ s0 = 0) → Q (.inl none, gm_h (gm_u S 0 18 s0))))) : gx_X gm_P (d + 1) 17 (173, [some (.ref 0), o1, o2, some (.int a3)], [.int s0, .ref 0], gm_h S, bc, bs) Q := gx_X.bs [0, 13, 21, 34, 39, 73, 90, 99, 100, 113, 132, 157, 158, 162, 173, 189, 193, 201, 220, 237, 240] 7 (And.intro (k).1 (And.intro (fun h1 => ⟨0, 0, ⟨Nat.zero_le _, Nat.zero_le _⟩, (((k).2).1 h1)⟩) (fun h1 => (((k).2).2 h1))))
theorem gb_readItem_189 {d : Nat} {Q : gx_R → Prop} {bc bs : Nat} {S : Nat → Nat → Int32} {o1 : Option Value} {o2 : Option Value} {o3 : Option Value} (k : gx_X gm_P d 16 (0, [some (.ref 0), none], [], gm_h S, 0, 0) (gx_k [some (.ref 0), o1, o2, o3] [] 193 bc bs (fun S9 => gx_X gm_P (d + 1) 17 S9 Q) Q)) : gx_X gm_P (d + 1) 17 (189, [some (.ref 0), o1, o2, o3], [], gm_h S, bc, bs) Q := gx_X.bs [0, 13, 21, 34, 39, 73, 90, 99, 100, 113, 132, 157, 158, 162, 173, 189, 193, 201, 220, 237, 240] 2 (⟨0, 0, ⟨Nat.zero_le _, Nat.zero_le _⟩, k⟩)
theorem gb_readItem_193 {d : Nat} {Q : gx_R → Prop} {bc bs : Nat} {S : Nat → Nat → Int32} {o1 : Option Value} {o2 : Option Value} {o3 : Option Value} (k : gx_X gm_P d 7 (0, [some (.ref 0), some (.int (S 0 17))], [], gm_h S, 0, 0) (gx_k [some (.ref 0), o1, o2, o3] [] 201 bc bs (fun S9 => gx_X gm_P (d + 1) 17 S9 Q) Q)) : gx_X gm_P (d + 1) 17 (193, [some (.ref 0), o1, o2, o3], [], gm_h S, bc, bs) Q := gx_X.bs [0, 13, 21, 34, 39, 73, 90, 99, 100, 113, 132, 157, 158, 162, 173, 189, 193, 201, 220, 237, 240] 4 (⟨0, 0, ⟨Nat.zero_le _, Nat.zero_le _⟩, k⟩)
theorem gb_readItem_201 {d : Nat} {Q : gx_R → Prop} {bc bs : Nat} {S : Nat → Nat → Int32} {o1 : Option Value} {o2 : Option Value} {o3 : Option Value} {s0 : Int32} (k : ((¬ s0 = (47)) → gx_X gm_P (d + 1) 17 (240, [some (.ref 0), o1, o2, o3], [], gm_h S, bc, bs) Q) ∧ ((s0 = (47)) → gx_X gm_P d 11 (0, [some (.ref 0), none], [], gm_h (gm_u S 0 17 ((S 0 17) + (1))), 0, 0) (gx_k [some (.ref 0), o1, o2, o3] [] 220 bc bs (fun S9 => gx_X gm_P (d + 1) 17 S9 Q) Q))) : gx_X gm_P (d + 1) 17 (201, [some (.ref 0), o1, o2, o3], [.int s0], gm_h S, bc, bs) Q := gx_X.bs [0, 13, 21, 34, 39, 73, 90, 99, 100, 113, 132, 157, 158, 162, 173, 189, 193, 201, 220, 237, 240] 10 (And.intro (fun h1 => ((k).1 h1)) (fun h1 => ⟨0, 0, ⟨Nat.zero_le _, Nat.zero_le _⟩, ((k).2 h1)⟩))
theorem gb_readItem_220 {d : Nat} {Q : gx_R → Prop} {bc bs : Nat} {S : Nat → Nat → Int32} {o1 : Option Value} {o2 : Option Value} {o3 : Option Value} (k : (((S 0 17) < (S 0 2)) → gx_X gm_P (d + 1) 17 (237, [some (.ref 0), o1, o2, o3], [.int (0), .ref 0], gm_h S, bc, bs) Q) ∧ ((¬ (S 0 17) < (S 0 2)) → gx_X gm_P (d + 1) 17 (237, [some (.ref 0), o1, o2, o3], [.int (1), .ref 0], gm_h S, bc, bs) Q)) : gx_X gm_P (d + 1) 17 (220, [some (.ref 0), o1, o2, o3], [], gm_h S, bc, bs) Q := gx_X.bs [0, 13, 21, 34, 39, 73, 90, 99, 100, 113, 132, 157, 158, 162, 173, 189, 193, 201, 220, 237, 240] 9 (And.intro (fun h1 => ((k).1 h1)) (fun h1 => ((k).2 h1)))
theorem gb_readItem_237 {d : Nat} {Q : gx_R → Prop} {bc bs : Nat} {S : Nat → Nat → Int32} {o1 : Option Value} {o2 : Option Value} {o3 : Option Value} {s0 : Int32} (k : (narrow .boolean (.int s0) = .int s0 ∧ fits .boolean (.int s0) = true) ∧ (gx_X gm_P (d + 1) 17 (240, [some (.ref 0), o1, o2, o3], [], gm_h (gm_u S 0 18 s0), bc, bs) Q)) : gx_X gm_P (d + 1) 17 (237, [some (.ref 0), o1, o2, o3], [.int s0, .ref 0], gm_h S, bc, bs) Q := gx_X.bs [0, 13, 21, 34, 39, 73, 90, 99, 100, 113, 132, 157, 158, 162, 173, 189, 193, 201, 220, 237, 240] 2 (And.intro (k).1 ((k).2))
theorem gb_readItem_240 {d : Nat} {Q : gx_R → Prop} {bc bs : Nat} {S : Nat → Nat → Int32} {o1 : Option Value} {o2 : Option Value} {o3 : Option Value} (k : Q (.inl none, gm_h S)) : gx_X gm_P (d + 1) 17 (240, [some (.ref 0), o1, o2, o3], [], gm_h S, bc, bs) Q := gx_X.bs [0, 13, 21, 34, 39, 73, 90, 99, 100, 113, 132, 157, 158, 162, 173, 189, 193, 201, 220, 237, 240] 1 (k)
theorem gb_read_0 {d : Nat} {Q : gx_R → Prop} {bc bs : Nat} {S : Nat → Nat → Int32}  (k : gx_X gm_P d 7 (0, [some (.ref 0), some (.int (0))], [], gm_h S, 0, 0) (gx_k [some (.ref 0)] [] 5 bc bs (fun S9 => gx_X gm_P (d + 1) 18 S9 Q) Q)) : gx_X gm_P (d + 1) 18 (0, [some (.ref 0)], [], gm_h S, bc, bs) Q := gx_X.bs [0, 5, 15, 25, 38, 67, 89, 92, 124, 125] 3 (⟨0, 0, ⟨Nat.zero_le _, Nat.zero_le _⟩, k⟩)
theorem gb_read_5 {d : Nat} {Q : gx_R → Prop} {bc bs : Nat} {S : Nat → Nat → Int32} {s0 : Int32} (k : ((s0 < (65)) → gx_X gm_P (d + 1) 18 (38, [some (.ref 0)], [], gm_h S, bc, bs) Q) ∧ ((¬ s0 < (65)) → gx_X gm_P d 7 (0, [some (.ref 0), some (.int (0))], [], gm_h S, 0, 0) (gx_k [some (.ref 0)] [] 15 bc bs (fun S9 => gx_X gm_P (d + 1) 18 S9 Q) Q))) : gx_X gm_P (d + 1) 18 (5, [some (.ref 0)], [.int s0], gm_h S, bc, bs) Q := gx_X.bs [0, 5, 15, 25, 38, 67, 89, 92, 124, 125] 5 (And.intro (fun h1 => ((k).1 h1)) (fun h1 => ⟨0, 0, ⟨Nat.zero_le _, Nat.zero_le _⟩, ((k).2 h1)⟩))
theorem gb_read_15 {d : Nat} {Q : gx_R → Prop} {bc bs : Nat} {S : Nat → Nat → Int32} {s0 : Int32} (k : (((68) < s0) → gx_X gm_P (d + 1) 18 (38, [some (.ref 0)], [], gm_h S, bc, bs) Q) ∧ ((¬ (68) < s0) → gx_X gm_P d 7 (0, [some (.ref 0), some (.int (1))], [], gm_h S, 0, 0) (gx_k [some (.ref 0)] [] 25 bc bs (fun S9 => gx_X gm_P (d + 1) 18 S9 Q) Q))) : gx_X gm_P (d + 1) 18 (15, [some (.ref 0)], [.int s0], gm_h S, bc, bs) Q := gx_X.bs [0, 5, 15, 25, 38, 67, 89, 92, 124, 125] 5 (And.intro (fun h1 => ((k).1 h1)) (fun h1 => ⟨0, 0, ⟨Nat.zero_le _, Nat.zero_le _⟩, ((k).2 h1)⟩))
theorem gb_read_25 {d : Nat} {Q : gx_R → Prop} {bc bs : Nat} {S : Nat → Nat → Int32} {s0 : Int32} (k : ((¬ s0 = (61)) → gx_X gm_P (d + 1) 18 (38, [some (.ref 0)], [], gm_h S, bc, bs) Q) ∧ ((s0 = (61)) → ((¬ (S 0 2) < (3)) → (narrow .boolean (.int (0)) = .int (0) ∧ fits .boolean (.int (0)) = true) ∧ (gx_X gm_P d 12 (0, [some (.ref 0), some (.int (0))], [], gm_h (gm_u (gm_u (gm_u (gm_u S 0 17 (2)) 0 18 (0)) 6 4 (0)) 0 19 (-1)), 0, 0) (gx_k [some (.ref 0)] [] 67 bc bs (fun S9 => gx_X gm_P (d + 1) 18 S9 Q) Q))) ∧ (((S 0 2) < (3)) → gx_X gm_P (d + 1) 18 (38, [some (.ref 0)], [], gm_h S, bc, bs) Q))) : gx_X gm_P (d + 1) 18 (25, [some (.ref 0)], [.int s0], gm_h S, bc, bs) Q := gx_X.bs [0, 5, 15, 25, 38, 67, 89, 92, 124, 125] 23 (And.intro (fun h2 => ((k).1 h2)) (fun h2 => And.intro (fun h1 => And.intro (((((k).2 h2)).1 h1)).1 (And.intro (by first | decide | (unfold vp_in; decide)) (⟨0, 0, ⟨Nat.zero_le _, Nat.zero_le _⟩, (((((k).2 h2)).1 h1)).2⟩))) (fun h1 => ((((k).2 h2)).2 h1))))
theorem gb_read_38 {d : Nat} {Q : gx_R → Prop} {bc bs : Nat} {S : Nat → Nat → Int32}  (k : Q (.inl (some (.int (0))), gm_h S)) : gx_X gm_P (d + 1) 18 (38, [some (.ref 0)], [], gm_h S, bc, bs) Q := gx_X.bs [0, 5, 15, 25, 38, 67, 89, 92, 124, 125] 2 (And.intro (by first | decide | (unfold vp_in; decide)) (k))
theorem gb_read_67 {d : Nat} {Q : gx_R → Prop} {bc bs : Nat} {S : Nat → Nat → Int32}  (k : ((¬ (S 0 18) = 0) → gx_X gm_P (d + 1) 18 (92, [some (.ref 0)], [], gm_h S, bc, bs) Q) ∧ (((S 0 18) = 0) → ((¬ (S 0 17) < (S 0 2)) → gx_X gm_P (d + 1) 18 (92, [some (.ref 0)], [], gm_h S, bc, bs) Q) ∧ (((S 0 17) < (S 0 2)) → gx_X gm_P d 17 (0, [some (.ref 0), none, none, none], [], gm_h S, 0, 0) (gx_k [some (.ref 0)] [] 89 bc bs (fun S9 => gx_X gm_P (d + 1) 18 S9 Q) Q)))) : gx_X gm_P (d + 1) 18 (67, [some (.ref 0)], [], gm_h S, bc, bs) Q := gx_X.bs [0, 5, 15, 25, 38, 67, 89, 92, 124, 125] 10 (And.intro (fun h2 => ((k).1 h2)) (fun h2 => And.intro (fun h1 => ((((k).2 h2)).1 h1)) (fun h1 => ⟨0, 0, ⟨Nat.zero_le _, Nat.zero_le _⟩, ((((k).2 h2)).2 h1)⟩)))
theorem gb_read_89 {d : Nat} {Q : gx_R → Prop} {bc bs : Nat} {S : Nat → Nat → Int32}  (k : gx_X gm_P (d + 1) 18 (67, [some (.ref 0)], [], gm_h S, bc, bs) Q) : gx_X gm_P (d + 1) 18 (89, [some (.ref 0)], [], gm_h S, bc, bs) Q := gx_X.bs [0, 5, 15, 25, 38, 67, 89, 92, 124, 125] 2 (k)
theorem gb_read_92 {d : Nat} {Q : gx_R → Prop} {bc bs : Nat} {S : Nat → Nat → Int32}  (k : ((¬ (S 0 18) = 0) → gx_X gm_P (d + 1) 18 (124, [some (.ref 0)], [], gm_h S, bc, bs) Q) ∧ (((S 0 18) = 0) → ((¬ (S 0 19) = 0) → gx_X gm_P (d + 1) 18 (124, [some (.ref 0)], [], gm_h S, bc, bs) Q) ∧ (((S 0 19) = 0) → (vp_in (S 16 0) 200) ∧ ((((S 8 (Int32.toNatClampNeg (S 16 0))) < 0) → gx_X gm_P (d + 1) 18 (124, [some (.ref 0)], [], gm_h S, bc, bs) Q) ∧ ((¬ (S 8 (Int32.toNatClampNeg (S 16 0))) < 0) → gx_X gm_P (d + 1) 18 (125, [some (.ref 0)], [.int (1)], gm_h S, bc, bs) Q))))) : gx_X gm_P (d + 1) 18 (92, [some (.ref 0)], [], gm_h S, bc, bs) Q := gx_X.bs [0, 5, 15, 25, 38, 67, 89, 92, 124, 125] 17 (And.intro (fun h3 => ((k).1 h3)) (fun h3 => And.intro (fun h2 => ((((k).2 h3)).1 h2)) (fun h2 => And.intro (by first | decide | (unfold vp_in; decide)) (And.intro (((((k).2 h3)).2 h2)).1 (And.intro (fun h1 => (((((((k).2 h3)).2 h2)).2).1 h1)) (fun h1 => (((((((k).2 h3)).2 h2)).2).2 h1)))))))
theorem gb_read_124 {d : Nat} {Q : gx_R → Prop} {bc bs : Nat} {S : Nat → Nat → Int32}  (k : gx_X gm_P (d + 1) 18 (125, [some (.ref 0)], [.int (0)], gm_h S, bc, bs) Q) : gx_X gm_P (d + 1) 18 (124, [some (.ref 0)], [], gm_h S, bc, bs) Q := gx_X.bs [0, 5, 15, 25, 38, 67, 89, 92, 124, 125] 2 (k)
theorem gb_read_125 {d : Nat} {Q : gx_R → Prop} {bc bs : Nat} {S : Nat → Nat → Int32} {s0 : Int32} (k : (narrow .boolean (.int s0) = .int s0) ∧ (Q (.inl (some (.int s0)), gm_h S))) : gx_X gm_P (d + 1) 18 (125, [some (.ref 0)], [.int s0], gm_h S, bc, bs) Q := gx_X.bs [0, 5, 15, 25, 38, 67, 89, 92, 124, 125] 1 (And.intro (k).1 ((k).2))
theorem gb_define_0 {d : Nat} {Q : gx_R → Prop} {bc bs : Nat} {S : Nat → Nat → Int32} {o1 : Option Value} {o2 : Option Value} {o3 : Option Value} {o4 : Option Value} (k : gx_X gm_P d 18 (0, [some (.ref 0)], [], gm_h S, 0, 0) (gx_k [some (.ref 0), o1, o2, o3, o4] [.ref 0] 5 bc bs (fun S9 => gx_X gm_P (d + 1) 19 S9 Q) Q)) : gx_X gm_P (d + 1) 19 (0, [some (.ref 0), o1, o2, o3, o4], [], gm_h S, bc, bs) Q := gx_X.bs [0, 5, 13, 58, 101, 106, 151, 194, 220, 251, 268] 3 (⟨0, 0, ⟨Nat.zero_le _, Nat.zero_le _⟩, k⟩)
theorem gb_define_5 {d : Nat} {Q : gx_R → Prop} {bc bs : Nat} {S : Nat → Nat → Int32} {o1 : Option Value} {o2 : Option Value} {o3 : Option Value} {o4 : Option Value} {s0 : Int32} (k : ((s0 = 0) → gx_X gm_P (d + 1) 19 (13, [some (.ref 0), o1, o2, o3, o4], [.int (1), .ref 0], gm_h S, bc, bs) Q) ∧ ((¬ s0 = 0) → gx_X gm_P (d + 1) 19 (13, [some (.ref 0), o1, o2, o3, o4], [.int (0), .ref 0], gm_h S, bc, bs) Q)) : gx_X gm_P (d + 1) 19 (5, [some (.ref 0), o1, o2, o3, o4], [.int s0, .ref 0], gm_h S, bc, bs) Q := gx_X.bs [0, 5, 13, 58, 101, 106, 151, 194, 220, 251, 268] 4 (And.intro (fun h1 => ((k).1 h1)) (fun h1 => ((k).2 h1)))
theorem gb_define_13 {d : Nat} {Q : gx_R → Prop} {bc bs : Nat} {S : Nat → Nat → Int32} {o1 : Option Value} {o2 : Option Value} {o3 : Option Value} {o4 : Option Value} {s0 : Int32} (k : ((¬ s0 = 0) → gx_X gm_P (d + 1) 19 (251, [some (.ref 0), some (.int ((S 1 0) - (65))), o2, o3, o4], [], gm_h (gm_u S 0 0 s0), bc, bs) Q) ∧ ((s0 = 0) → (vp_in ((S 1 0) - (65)) 5) ∧ (gx_X gm_P (d + 1) 19 (58, [some (.ref 0), some (.int ((S 1 0) - (65))), some (.int (((40) * ((S 1 0) - (65))) - (160))), some (.int (160)), o4], [], gm_h (gm_u (gm_u S 0 0 s0) 6 (Int32.toNatClampNeg ((S 1 0) - (65))) (S 6 4)), bc, bs) Q))) : gx_X gm_P (d + 1) 19 (13, [some (.ref 0), o1, o2, o3, o4], [.int s0, .ref 0], gm_h S, bc, bs) Q := gx_X.bs [0, 5, 13, 58, 101, 106, 151, 194, 220, 251, 268] 28 (And.intro (by first | decide | (unfold vp_in; decide)) (And.intro (fun h1 => ((k).1 h1)) (fun h1 => And.intro (by first | decide | (unfold vp_in; decide)) (And.intro (((k).2 h1)).1 ((((k).2 h1)).2)))))
theorem gb_define_58 {d : Nat} {Q : gx_R → Prop} {bc bs : Nat} {S : Nat → Nat → Int32} {a1 : Int32} {a2 : Int32} {a3 : Int32} {o4 : Option Value} (k : ((¬ a3 < ((160) + (S 6 4))) → (vp_in a1 4) ∧ ((vp_in a1 4) ∧ (gx_X gm_P (d + 1) 19 (220, [some (.ref 0), some (.int a1), some (.int a2), some (.int (0)), o4], [], gm_h (gm_u (gm_u S 3 (Int32.toNatClampNeg a1) (vp_nar .boolean (1))) 5 (Int32.toNatClampNeg a1) (S 0 2)), bc, bs) Q))) ∧ ((a3 < ((160) + (S 6 4))) → (vp_in a3 200) ∧ ((((S 7 (Int32.toNatClampNeg a3)) = 0) → gx_X gm_P (d + 1) 19 (101, [some (.ref 0), some (.int a1), some (.int a2), some (.int a3), o4], [], gm_h S, bc, bs) Q) ∧ ((¬ (S 7 (Int32.toNatClampNeg a3)) = 0) → (vp_in a3 200) ∧ ((((S 7 (Int32.toNatClampNeg a3)) = (1)) → gx_X gm_P (d + 1) 19 (101, [some (.ref 0), some (.int a1), some (.int a2), some (.int a3), o4], [], gm_h S, bc, bs) Q) ∧ ((¬ (S 7 (Int32.toNatClampNeg a3)) = (1)) → (vp_in a3 200) ∧ (((¬ (S 7 (Int32.toNatClampNeg a3)) = (2)) → gx_X gm_P (d + 1) 19 (106, [some (.ref 0), some (.int a1), some (.int a2), some (.int a3), o4], [.int (0)], gm_h S, bc, bs) Q) ∧ (((S 7 (Int32.toNatClampNeg a3)) = (2)) → gx_X gm_P (d + 1) 19 (101, [some (.ref 0), some (.int a1), some (.int a2), some (.int a3), o4], [], gm_h S, bc, bs) Q)))))))) : gx_X gm_P (d + 1) 19 (58, [some (.ref 0), some (.int a1), some (.int a2), some (.int a3), o4], [], gm_h S, bc, bs) Q := gx_X.bs [0, 5, 13, 58, 101, 106, 151, 194, 220, 251, 268] 27 (And.intro (by first | decide | (unfold vp_in; decide)) (And.intro (fun h4 => And.intro (((k).1 h4)).1 (And.intro ((((k).1 h4)).2).1 (((((k).1 h4)).2).2))) (fun h4 => And.intro (((k).2 h4)).1 (And.intro (fun h3 => (((((k).2 h4)).2).1 h3)) (fun h3 => And.intro ((((((k).2 h4)).2).2 h3)).1 (And.intro (fun h2 => ((((((((k).2 h4)).2).2 h3)).2).1 h2)) (fun h2 => And.intro (((((((((k).2 h4)).2).2 h3)).2).2 h2)).1 (And.intro (fun h1 => (((((((((((k).2 h4)).2).2 h3)).2).2 h2)).2).1 h1)) (fun h1 => (((((((((((k).2 h4)).2).2 h3)).2).2 h2)).2).2 h1))))))))))
theorem gb_define_101 {d : Nat} {Q : gx_R → Prop} {bc bs : Nat} {S : Nat → Nat → Int32} {a1 : Int32} {a2 : Int32} {a3 : Int32} {o4 : Option Value} (k : gx_X gm_P (d + 1) 19 (106, [some (.ref 0), some (.int a1), some (.int a2), some (.int a3), o4], [.int (1)], gm_h S, bc, bs) Q) : gx_X gm_P (d + 1) 19 (101, [some (.ref 0), some (.int a1), some (.int a2), some (.int a3), o4], [], gm_h S, bc, bs) Q := gx_X.bs [0, 5, 13, 58, 101, 106, 151, 194, 220, 251, 268] 3 (k)
theorem gb_define_106 {d : Nat} {Q : gx_R → Prop} {bc bs : Nat} {S : Nat → Nat → Int32} {a1 : Int32} {a2 : Int32} {a3 : Int32} {o4 : Option Value} {s0 : Int32} (k : (vp_in a3 200) ∧ ((vp_in (a3 + a2) 200) ∧ (((s0 = 0) → (vp_in a3 200) ∧ (gx_X gm_P (d + 1) 19 (151, [some (.ref 0), some (.int a1), some (.int a2), some (.int a3), some (.int s0)], [.int ((S 8 (Int32.toNatClampNeg a3)) + a2), .int (a3 + a2), .ref 8], gm_h (gm_u S 7 (Int32.toNatClampNeg (a3 + a2)) (S 7 (Int32.toNatClampNeg a3))), bc, bs) Q)) ∧ ((¬ s0 = 0) → (vp_in a3 200) ∧ (gx_X gm_P (d + 1) 19 (151, [some (.ref 0), some (.int a1), some (.int a2), some (.int a3), some (.int s0)], [.int (S 8 (Int32.toNatClampNeg a3)), .int (a3 + a2), .ref 8], gm_h (gm_u S 7 (Int32.toNatClampNeg (a3 + a2)) (S 7 (Int32.toNatClampNeg a3))), bc, bs) Q))))) : gx_X gm_P (d + 1) 19 (106, [some (.ref 0), some (.int a1), some (.int a2), some (.int a3), o4], [.int s0], gm_h S, bc, bs) Q := gx_X.bs [0, 5, 13, 58, 101, 106, 151, 194, 220, 251, 268] 25 (And.intro (k).1 (And.intro ((k).2).1 (And.intro (fun h1 => And.intro (((((k).2).2).1 h1)).1 ((((((k).2).2).1 h1)).2)) (fun h1 => And.intro (((((k).2).2).2 h1)).1 ((((((k).2).2).2 h1)).2)))))
theorem gb_define_151 {d : Nat} {Q : gx_R → Prop} {bc bs : Nat} {S : Nat → Nat → Int32} {a1 : Int32} {a2 : Int32} {a3 : Int32} {o4 : Option Value} {s0 : Int32} {s1 : Int32} (k : (vp_in s1 200) ∧ ((vp_in a3 200) ∧ ((vp_in (a3 + a2) 200) ∧ ((vp_in a3 200) ∧ (((¬ (S 10 (Int32.toNatClampNeg a3)) < 0) → (vp_in a3 200) ∧ (gx_X gm_P (d + 1) 19 (194, [some (.ref 0), some (.int a1), some (.int a2), some (.int a3), o4], [.int ((S 10 (Int32.toNatClampNeg a3)) + a2), .int (a3 + a2), .ref 10], gm_h (gm_u (gm_u S 8 (Int32.toNatClampNeg s1) s0) 9 (Int32.toNatClampNeg (a3 + a2)) (S 9 (Int32.toNatClampNeg a3))), bc, bs) Q)) ∧ (((S 10 (Int32.toNatClampNeg a3)) < 0) → gx_X gm_P (d + 1) 19 (194, [some (.ref 0), some (.int a1), some (.int a2), some (.int a3), o4], [.int (-1), .int (a3 + a2), .ref 10], gm_h (gm_u (gm_u S 8 (Int32.toNatClampNeg s1) s0) 9 (Int32.toNatClampNeg (a3 + a2)) (S 9 (Int32.toNatClampNeg a3))), bc, bs) Q)))))) : gx_X gm_P (d + 1) 19 (151, [some (.ref 0), some (.int a1), some (.int a2), some (.int a3), o4], [.int s0, .int s1, .ref 8], gm_h S, bc, bs) Q := gx_X.bs [0, 5, 13, 58, 101, 106, 151, 194, 220, 251, 268] 28 (And.intro (k).1 (And.intro ((k).2).1 (And.intro (((k).2).2).1 (And.intro ((((k).2).2).2).1 (And.intro (fun h1 => And.intro (((((((k).2).2).2).2).1 h1)).1 ((((((((k).2).2).2).2).1 h1)).2)) (fun h1 => ((((((k).2).2).2).2).2 h1)))))))
theorem gb_define_194 {d : Nat} {Q : gx_R → Prop} {bc bs : Nat} {S : Nat → Nat → Int32} {a1 : Int32} {a2 : Int32} {a3 : Int32} {o4 : Option Value} {s0 : Int32} {s1 : Int32} (k : (vp_in s1 200) ∧ (gx_X gm_P (d + 1) 19 (58, [some (.ref 0), some (.int a1), some (.int a2), some (.int (a3 + Int32.ofInt (1))), o4], [], gm_h (gm_u S 10 (Int32.toNatClampNeg s1) s0), bc, bs) Q)) : gx_X gm_P (d + 1) 19 (194, [some (.ref 0), some (.int a1), some (.int a2), some (.int a3), o4], [.int s0, .int s1, .ref 10], gm_h S, bc, bs) Q := gx_X.bs [0, 5, 13, 58, 101, 106, 151, 194, 220, 251, 268] 4 (And.intro (k).1 ((k).2))
theorem gb_define_220 {d : Nat} {Q : gx_R → Prop} {bc bs : Nat} {S : Nat → Nat → Int32} {a1 : Int32} {o2 : Option Value} {a3 : Int32} {o4 : Option Value} (k : ((¬ a3 < (S 0 2)) → gx_X gm_P (d + 1) 19 (251, [some (.ref 0), some (.int a1), o2, some (.int a3), o4], [], gm_h S, bc, bs) Q) ∧ ((a3 < (S 0 2)) → (vp_in a3 20) ∧ ((vp_in (((20) * a1) + a3) 80) ∧ (gx_X gm_P (d + 1) 19 (220, [some (.ref 0), some (.int a1), o2, some (.int (a3 + Int32.ofInt (1))), o4], [], gm_h (gm_u S 4 (Int32.toNatClampNeg (((20) * a1) + a3)) (S 1 (Int32.toNatClampNeg a3))), bc, bs) Q)))) : gx_X gm_P (d + 1) 19 (220, [some (.ref 0), some (.int a1), o2, some (.int a3), o4], [], gm_h S, bc, bs) Q := gx_X.bs [0, 5, 13, 58, 101, 106, 151, 194, 220, 251, 268] 19 (And.intro (fun h1 => ((k).1 h1)) (fun h1 => And.intro (((k).2 h1)).1 (And.intro ((((k).2 h1)).2).1 (((((k).2 h1)).2).2))))
theorem gb_define_251 {d : Nat} {Q : gx_R → Prop} {bc bs : Nat} {S : Nat → Nat → Int32} {a1 : Int32} {o2 : Option Value} {o3 : Option Value} {o4 : Option Value} (k : ((¬ (S 0 0) = 0) → gx_X gm_P (d + 1) 19 (268, [some (.ref 0), some (.int a1), o2, o3, o4], [.int (0)], gm_h (gm_u S 0 2 (0)), bc, bs) Q) ∧ (((S 0 0) = 0) → gx_X gm_P (d + 1) 19 (268, [some (.ref 0), some (.int a1), o2, o3, o4], [.int a1], gm_h (gm_u S 0 2 (0)), bc, bs) Q)) : gx_X gm_P (d + 1) 19 (251, [some (.ref 0), some (.int a1), o2, o3, o4], [], gm_h S, bc, bs) Q := gx_X.bs [0, 5, 13, 58, 101, 106, 151, 194, 220, 251, 268] 9 (And.intro (fun h1 => ((k).1 h1)) (fun h1 => ((k).2 h1)))
theorem gb_define_268 {d : Nat} {Q : gx_R → Prop} {bc bs : Nat} {S : Nat → Nat → Int32} {o1 : Option Value} {o2 : Option Value} {o3 : Option Value} {o4 : Option Value} {s0 : Int32} (k : Q (.inl (some (.int s0)), gm_h S)) : gx_X gm_P (d + 1) 19 (268, [some (.ref 0), o1, o2, o3, o4], [.int s0], gm_h S, bc, bs) Q := gx_X.bs [0, 5, 13, 58, 101, 106, 151, 194, 220, 251, 268] 1 (k)
theorem gb_drop_0 {d : Nat} {Q : gx_R → Prop} {bc bs : Nat} {S : Nat → Nat → Int32} {a1 : Int32} (k : gx_X gm_P d 2 (0, [some (.int a1)], [], gm_h S, 0, 0) (gx_k [some (.ref 0), some (.int a1)] [.ref 0] 5 bc bs (fun S9 => gx_X gm_P (d + 1) 20 S9 Q) Q)) : gx_X gm_P (d + 1) 20 (0, [some (.ref 0), some (.int a1)], [], gm_h S, bc, bs) Q := gx_X.bs [0, 5, 13, 32] 3 (⟨0, 0, ⟨Nat.zero_le _, Nat.zero_le _⟩, k⟩)
theorem gb_drop_5 {d : Nat} {Q : gx_R → Prop} {bc bs : Nat} {S : Nat → Nat → Int32} {a1 : Int32} {s0 : Int32} (k : ((s0 = 0) → gx_X gm_P (d + 1) 20 (13, [some (.ref 0), some (.int a1)], [.int (1), .ref 0], gm_h S, bc, bs) Q) ∧ ((¬ s0 = 0) → gx_X gm_P (d + 1) 20 (13, [some (.ref 0), some (.int a1)], [.int (0), .ref 0], gm_h S, bc, bs) Q)) : gx_X gm_P (d + 1) 20 (5, [some (.ref 0), some (.int a1)], [.int s0, .ref 0], gm_h S, bc, bs) Q := gx_X.bs [0, 5, 13, 32] 4 (And.intro (fun h1 => ((k).1 h1)) (fun h1 => ((k).2 h1)))
theorem gb_drop_13 {d : Nat} {Q : gx_R → Prop} {bc bs : Nat} {S : Nat → Nat → Int32} {a1 : Int32} {s0 : Int32} (k : ((0 < s0) → gx_X gm_P (d + 1) 20 (32, [some (.ref 0), some (.int a1)], [], gm_h (gm_u S 0 0 s0), bc, bs) Q) ∧ ((¬ 0 < s0) → (vp_in a1 4) ∧ (((¬ (S 3 (Int32.toNatClampNeg a1)) = 0) → (vp_in a1 4) ∧ (Q (.inl (some (.int (1))), gm_h (gm_u (gm_u S 0 0 s0) 3 (Int32.toNatClampNeg a1) (vp_nar .boolean (0)))))) ∧ (((S 3 (Int32.toNatClampNeg a1)) = 0) → gx_X gm_P (d + 1) 20 (32, [some (.ref 0), some (.int a1)], [], gm_h (gm_u S 0 0 s0), bc, bs) Q)))) : gx_X gm_P (d + 1) 20 (13, [some (.ref 0), some (.int a1)], [.int s0, .ref 0], gm_h S, bc, bs) Q := gx_X.bs [0, 5, 13, 32] 16 (And.intro (fun h2 => ((k).1 h2)) (fun h2 => And.intro (((k).2 h2)).1 (And.intro (fun h1 => And.intro ((((((k).2 h2)).2).1 h1)).1 (And.intro (by first | decide | (unfold vp_in; decide)) (((((((k).2 h2)).2).1 h1)).2))) (fun h1 => (((((k).2 h2)).2).2 h1)))))
theorem gb_drop_32 {d : Nat} {Q : gx_R → Prop} {bc bs : Nat} {S : Nat → Nat → Int32} {o1 : Option Value} (k : Q (.inl (some (.int (0))), gm_h S)) : gx_X gm_P (d + 1) 20 (32, [some (.ref 0), o1], [], gm_h S, bc, bs) Q := gx_X.bs [0, 5, 13, 32] 2 (And.intro (by first | decide | (unfold vp_in; decide)) (k))
theorem gb_shown_0 {d : Nat} {Q : gx_R → Prop} {bc bs : Nat} {S : Nat → Nat → Int32} {a1 : Int32} {a2 : Int32} (k : gx_X gm_P d 2 (0, [some (.int a1)], [], gm_h (gm_u S 0 0 (0)), 0, 0) (gx_k [some (.ref 0), some (.int a1), some (.int a2)] [] 9 bc bs (fun S9 => gx_X gm_P (d + 1) 21 S9 Q) Q)) : gx_X gm_P (d + 1) 21 (0, [some (.ref 0), some (.int a1), some (.int a2)], [], gm_h S, bc, bs) Q := gx_X.bs [0, 9, 50, 51] 5 (⟨0, 0, ⟨Nat.zero_le _, Nat.zero_le _⟩, k⟩)
theorem gb_shown_9 {d : Nat} {Q : gx_R → Prop} {bc bs : Nat} {S : Nat → Nat → Int32} {a1 : Int32} {a2 : Int32} {s0 : Int32} (k : ((s0 = 0) → gx_X gm_P (d + 1) 21 (50, [some (.ref 0), some (.int a1), some (.int a2)], [], gm_h S, bc, bs) Q) ∧ ((¬ s0 = 0) → (vp_in a1 4) ∧ ((((S 3 (Int32.toNatClampNeg a1)) = 0) → gx_X gm_P (d + 1) 21 (50, [some (.ref 0), some (.int a1), some (.int a2)], [], gm_h S, bc, bs) Q) ∧ ((¬ (S 3 (Int32.toNatClampNeg a1)) = 0) → ((a2 < 0) → gx_X gm_P (d + 1) 21 (50, [some (.ref 0), some (.int a1), some (.int a2)], [], gm_h S, bc, bs) Q) ∧ ((¬ a2 < 0) → (vp_in a1 4) ∧ (((¬ a2 < (S 5 (Int32.toNatClampNeg a1))) → gx_X gm_P (d + 1) 21 (50, [some (.ref 0), some (.int a1), some (.int a2)], [], gm_h S, bc, bs) Q) ∧ ((a2 < (S 5 (Int32.toNatClampNeg a1))) → (vp_in (((20) * a1) + a2) 80) ∧ (gx_X gm_P (d + 1) 21 (51, [some (.ref 0), some (.int a1), some (.int a2)], [.int (((S 4 (Int32.toNatClampNeg (((20) * a1) + a2)))).toUInt32 % 65536).toInt32], gm_h S, bc, bs) Q)))))))) : gx_X gm_P (d + 1) 21 (9, [some (.ref 0), some (.int a1), some (.int a2)], [.int s0], gm_h S, bc, bs) Q := gx_X.bs [0, 9, 50, 51] 25 (And.intro (fun h4 => ((k).1 h4)) (fun h4 => And.intro (((k).2 h4)).1 (And.intro (fun h3 => (((((k).2 h4)).2).1 h3)) (fun h3 => And.intro (fun h2 => (((((((k).2 h4)).2).2 h3)).1 h2)) (fun h2 => And.intro ((((((((k).2 h4)).2).2 h3)).2 h2)).1 (And.intro (fun h1 => ((((((((((k).2 h4)).2).2 h3)).2 h2)).2).1 h1)) (fun h1 => And.intro (((((((((((k).2 h4)).2).2 h3)).2 h2)).2).2 h1)).1 ((((((((((((k).2 h4)).2).2 h3)).2 h2)).2).2 h1)).2))))))))
theorem gb_shown_50 {d : Nat} {Q : gx_R → Prop} {bc bs : Nat} {S : Nat → Nat → Int32} {o1 : Option Value} {o2 : Option Value} (k : gx_X gm_P (d + 1) 21 (51, [some (.ref 0), o1, o2], [.int (0)], gm_h S, bc, bs) Q) : gx_X gm_P (d + 1) 21 (50, [some (.ref 0), o1, o2], [], gm_h S, bc, bs) Q := gx_X.bs [0, 9, 50, 51] 2 (k)
theorem gb_shown_51 {d : Nat} {Q : gx_R → Prop} {bc bs : Nat} {S : Nat → Nat → Int32} {o1 : Option Value} {o2 : Option Value} {s0 : Int32} (k : (narrow .char (.int s0) = .int s0) ∧ (Q (.inl (some (.int s0)), gm_h S))) : gx_X gm_P (d + 1) 21 (51, [some (.ref 0), o1, o2], [.int s0], gm_h S, bc, bs) Q := gx_X.bs [0, 9, 50, 51] 1 (And.intro (k).1 ((k).2))
theorem gb_isNode_0 {d : Nat} {Q : gx_R → Prop} {bc bs : Nat} {S : Nat → Nat → Int32} {a1 : Int32} (k : ((¬ a1 < (160)) → gx_X gm_P (d + 1) 22 (39, [some (.ref 0), some (.int a1)], [], gm_h S, bc, bs) Q) ∧ ((a1 < (160)) → (vp_in (a1 / (40)) 4) ∧ ((((S 3 (Int32.toNatClampNeg (a1 / (40)))) = 0) → gx_X gm_P (d + 1) 22 (39, [some (.ref 0), some (.int a1)], [], gm_h S, bc, bs) Q) ∧ ((¬ (S 3 (Int32.toNatClampNeg (a1 / (40)))) = 0) → (vp_in (a1 / (40)) 5) ∧ (((¬ (a1 - a1 / (40) * (40)) < (S 6 (Int32.toNatClampNeg (a1 / (40))))) → gx_X gm_P (d + 1) 22 (39, [some (.ref 0), some (.int a1)], [], gm_h S, bc, bs) Q) ∧ (((a1 - a1 / (40) * (40)) < (S 6 (Int32.toNatClampNeg (a1 / (40))))) → gx_X gm_P (d + 1) 22 (40, [some (.ref 0), some (.int a1)], [.int (1)], gm_h S, bc, bs) Q)))))) : gx_X gm_P (d + 1) 22 (0, [some (.ref 0), some (.int a1)], [], gm_h S, bc, bs) Q := gx_X.bs [0, 39, 40] 23 (And.intro (fun h3 => ((k).1 h3)) (fun h3 => And.intro (by first | decide | (unfold vp_in; decide)) (And.intro (((k).2 h3)).1 (And.intro (fun h2 => (((((k).2 h3)).2).1 h2)) (fun h2 => And.intro (by first | decide | (unfold vp_in; decide)) (And.intro (by first | decide | (unfold vp_in; decide)) (And.intro ((((((k).2 h3)).2).2 h2)).1 (And.intro (fun h1 => ((((((((k).2 h3)).2).2 h2)).2).1 h1)) (fun h1 => ((((((((k).2 h3)).2).2 h2)).2).2 h1))))))))))
theorem gb_isNode_39 {d : Nat} {Q : gx_R → Prop} {bc bs : Nat} {S : Nat → Nat → Int32} {o1 : Option Value} (k : gx_X gm_P (d + 1) 22 (40, [some (.ref 0), o1], [.int (0)], gm_h S, bc, bs) Q) : gx_X gm_P (d + 1) 22 (39, [some (.ref 0), o1], [], gm_h S, bc, bs) Q := gx_X.bs [0, 39, 40] 2 (k)
theorem gb_isNode_40 {d : Nat} {Q : gx_R → Prop} {bc bs : Nat} {S : Nat → Nat → Int32} {o1 : Option Value} {s0 : Int32} (k : (narrow .boolean (.int s0) = .int s0) ∧ (Q (.inl (some (.int s0)), gm_h S))) : gx_X gm_P (d + 1) 22 (40, [some (.ref 0), o1], [.int s0], gm_h S, bc, bs) Q := gx_X.bs [0, 39, 40] 1 (And.intro (k).1 ((k).2))
theorem gb_emptyNow_0 {d : Nat} {Q : gx_R → Prop} {bc bs : Nat} {S : Nat → Nat → Int32} {a1 : Int32} {o2 : Option Value} {o3 : Option Value} {o4 : Option Value} (k : (vp_in a1 200) ∧ (((¬ (S 7 (Int32.toNatClampNeg a1)) = 0) → ((¬ (S 7 (Int32.toNatClampNeg a1)) = (1)) → (((S 7 (Int32.toNatClampNeg a1)) = (3)) → gx_X gm_P (d + 1) 23 (65, [some (.ref 0), some (.int a1), some (.int (S 7 (Int32.toNatClampNeg a1))), o3, o4], [], gm_h S, bc, bs) Q) ∧ ((¬ (S 7 (Int32.toNatClampNeg a1)) = (3)) → ((¬ (S 7 (Int32.toNatClampNeg a1)) = (5)) → ((¬ (S 7 (Int32.toNatClampNeg a1)) = (9)) → (((S 7 (Int32.toNatClampNeg a1)) = (10)) → gx_X gm_P (d + 1) 23 (143, [some (.ref 0), some (.int a1), some (.int (S 7 (Int32.toNatClampNeg a1))), o3, o4], [.int (0)], gm_h S, bc, bs) Q) ∧ ((¬ (S 7 (Int32.toNatClampNeg a1)) = (10)) → gx_X gm_P (d + 1) 23 (143, [some (.ref 0), some (.int a1), some (.int (S 7 (Int32.toNatClampNeg a1))), o3, o4], [.int (1)], gm_h S, bc, bs) Q)) ∧ (((S 7 (Int32.toNatClampNeg a1)) = (9)) → (vp_in a1 200) ∧ (gx_X gm_P (d + 1) 23 (93, [some (.ref 0), some (.int a1), some (.int (S 7 (Int32.toNatClampNeg a1))), some (.int (1)), some (.int (S 8 (Int32.toNatClampNeg a1)))], [], gm_h S, bc, bs) Q))) ∧ (((S 7 (Int32.toNatClampNeg a1)) = (5)) → gx_X gm_P (d + 1) 23 (65, [some (.ref 0), some (.int a1), some (.int (S 7 (Int32.toNatClampNeg a1))), o3, o4], [], gm_h S, bc, bs) Q))) ∧ (((S 7 (Int32.toNatClampNeg a1)) = (1)) → (vp_in a1 200) ∧ ((vp_in (S 8 (Int32.toNatClampNeg a1)) 4) ∧ ((((S 3 (Int32.toNatClampNeg (S 8 (Int32.toNatClampNeg a1)))) = 0) → gx_X gm_P (d + 1) 23 (53, [some (.ref 0), some (.int a1), some (.int (S 7 (Int32.toNatClampNeg a1))), o3, o4], [], gm_h S, bc, bs) Q) ∧ ((¬ (S 3 (Int32.toNatClampNeg (S 8 (Int32.toNatClampNeg a1)))) = 0) → (vp_in a1 200) ∧ ((vp_in ((40) * (S 8 (Int32.toNatClampNeg a1))) 200) ∧ ((((S 12 (Int32.toNatClampNeg ((40) * (S 8 (Int32.toNatClampNeg a1))))) = 0) → gx_X gm_P (d + 1) 23 (53, [some (.ref 0), some (.int a1), some (.int (S 7 (Int32.toNatClampNeg a1))), o3, o4], [], gm_h S, bc, bs) Q) ∧ ((¬ (S 12 (Int32.toNatClampNeg ((40) * (S 8 (Int32.toNatClampNeg a1))))) = 0) → gx_X gm_P (d + 1) 23 (54, [some (.ref 0), some (.int a1), some (.int (S 7 (Int32.toNatClampNeg a1))), o3, o4], [.int (1)], gm_h S, bc, bs) Q)))))))) ∧ (((S 7 (Int32.toNatClampNeg a1)) = 0) → Q (.inl (some (.int (0))), gm_h S)))) : gx_X gm_P (d + 1) 23 (0, [some (.ref 0), some (.int a1), o2, o3, o4], [], gm_h S, bc, bs) Q := gx_X.bs [0, 53, 54, 65, 93, 116, 117, 143, 152, 177, 182, 195] 31 (And.intro (k).1 (And.intro (fun h8 => And.intro (fun h7 => And.intro (fun h4 => (((((((k).2).1 h8)).1 h7)).1 h4)) (fun h4 => And.intro (fun h3 => And.intro (fun h2 => And.intro (fun h1 => (((((((((((((k).2).1 h8)).1 h7)).2 h4)).1 h3)).1 h2)).1 h1)) (fun h1 => (((((((((((((k).2).1 h8)).1 h7)).2 h4)).1 h3)).1 h2)).2 h1))) (fun h2 => And.intro ((((((((((((k).2).1 h8)).1 h7)).2 h4)).1 h3)).2 h2)).1 (((((((((((((k).2).1 h8)).1 h7)).2 h4)).1 h3)).2 h2)).2))) (fun h3 => (((((((((k).2).1 h8)).1 h7)).2 h4)).2 h3)))) (fun h7 => And.intro ((((((k).2).1 h8)).2 h7)).1 (And.intro (((((((k).2).1 h8)).2 h7)).2).1 (And.intro (fun h6 => (((((((((k).2).1 h8)).2 h7)).2).2).1 h6)) (fun h6 => And.intro ((((((((((k).2).1 h8)).2 h7)).2).2).2 h6)).1 (And.intro (((((((((((k).2).1 h8)).2 h7)).2).2).2 h6)).2).1 (And.intro (fun h5 => (((((((((((((k).2).1 h8)).2 h7)).2).2).2 h6)).2).2).1 h5)) (fun h5 => (((((((((((((k).2).1 h8)).2 h7)).2).2).2 h6)).2).2).2 h5))))))))) (fun h8 => And.intro (by first | decide | (unfold vp_in; decide)) ((((k).2).2 h8)))))
theorem gb_emptyNow_53 {d : Nat} {Q : gx_R → Prop} {bc bs : Nat} {S : Nat → Nat → Int32} {o1 : Option Value} {o2 : Option Value} {o3 : Option Value} {o4 : Option Value} (k : gx_X gm_P (d + 1) 23 (54, [some (.ref 0), o1, o2, o3, o4], [.int (0)], gm_h S, bc, bs) Q) : gx_X gm_P (d + 1) 23 (53, [some (.ref 0), o1, o2, o3, o4], [], gm_h S, bc, bs) Q := gx_X.bs [0, 53, 54, 65, 93, 116, 117, 143, 152, 177, 182, 195] 2 (k)
theorem gb_emptyNow_54 {d : Nat} {Q : gx_R → Prop} {bc bs : Nat} {S : Nat → Nat → Int32} {o1 : Option Value} {o2 : Option Value} {o3 : Option Value} {o4 : Option Value} {s0 : Int32} (k : (narrow .boolean (.int s0) = .int s0) ∧ (Q (.inl (some (.int s0)), gm_h S))) : gx_X gm_P (d + 1) 23 (54, [some (.ref 0), o1, o2, o3, o4], [.int s0], gm_h S, bc, bs) Q := gx_X.bs [0, 53, 54, 65, 93, 116, 117, 143, 152, 177, 182, 195] 1 (And.intro (k).1 ((k).2))
theorem gb_emptyNow_65 {d : Nat} {Q : gx_R → Prop} {bc bs : Nat} {S : Nat → Nat → Int32} {a1 : Int32} {o2 : Option Value} {o3 : Option Value} {o4 : Option Value} (k : (vp_in a1 200) ∧ ((vp_in (S 8 (Int32.toNatClampNeg a1)) 200) ∧ ((narrow .boolean (.int (S 12 (Int32.toNatClampNeg (S 8 (Int32.toNatClampNeg a1))))) = .int (S 12 (Int32.toNatClampNeg (S 8 (Int32.toNatClampNeg a1))))) ∧ (Q (.inl (some (.int (S 12 (Int32.toNatClampNeg (S 8 (Int32.toNatClampNeg a1)))))), gm_h S))))) : gx_X gm_P (d + 1) 23 (65, [some (.ref 0), some (.int a1), o2, o3, o4], [], gm_h S, bc, bs) Q := gx_X.bs [0, 53, 54, 65, 93, 116, 117, 143, 152, 177, 182, 195] 8 (And.intro (k).1 (And.intro ((k).2).1 (And.intro (((k).2).2).1 ((((k).2).2).2))))
theorem gb_emptyNow_93 {d : Nat} {Q : gx_R → Prop} {bc bs : Nat} {S : Nat → Nat → Int32} {o1 : Option Value} {o2 : Option Value} {a3 : Int32} {a4 : Int32} (k : ((a4 < 0) → (narrow .boolean (.int a3) = .int a3) ∧ (Q (.inl (some (.int a3)), gm_h S))) ∧ ((¬ a4 < 0) → ((a3 = 0) → gx_X gm_P (d + 1) 23 (116, [some (.ref 0), o1, o2, some (.int a3), some (.int a4)], [], gm_h S, bc, bs) Q) ∧ ((¬ a3 = 0) → (vp_in a4 200) ∧ ((((S 12 (Int32.toNatClampNeg a4)) = 0) → gx_X gm_P (d + 1) 23 (116, [some (.ref 0), o1, o2, some (.int a3), some (.int a4)], [], gm_h S, bc, bs) Q) ∧ ((¬ (S 12 (Int32.toNatClampNeg a4)) = 0) → gx_X gm_P (d + 1) 23 (117, [some (.ref 0), o1, o2, some (.int a3), some (.int a4)], [.int (1)], gm_h S, bc, bs) Q))))) : gx_X gm_P (d + 1) 23 (93, [some (.ref 0), o1, o2, some (.int a3), some (.int a4)], [], gm_h S, bc, bs) Q := gx_X.bs [0, 53, 54, 65, 93, 116, 117, 143, 152, 177, 182, 195] 12 (And.intro (fun h3 => And.intro (((k).1 h3)).1 ((((k).1 h3)).2)) (fun h3 => And.intro (fun h2 => ((((k).2 h3)).1 h2)) (fun h2 => And.intro (((((k).2 h3)).2 h2)).1 (And.intro (fun h1 => (((((((k).2 h3)).2 h2)).2).1 h1)) (fun h1 => (((((((k).2 h3)).2 h2)).2).2 h1))))))
theorem gb_emptyNow_116 {d : Nat} {Q : gx_R → Prop} {bc bs : Nat} {S : Nat → Nat → Int32} {o1 : Option Value} {o2 : Option Value} {o3 : Option Value} {a4 : Int32} (k : gx_X gm_P (d + 1) 23 (117, [some (.ref 0), o1, o2, o3, some (.int a4)], [.int (0)], gm_h S, bc, bs) Q) : gx_X gm_P (d + 1) 23 (116, [some (.ref 0), o1, o2, o3, some (.int a4)], [], gm_h S, bc, bs) Q := gx_X.bs [0, 53, 54, 65, 93, 116, 117, 143, 152, 177, 182, 195] 2 (k)
theorem gb_emptyNow_117 {d : Nat} {Q : gx_R → Prop} {bc bs : Nat} {S : Nat → Nat → Int32} {o1 : Option Value} {o2 : Option Value} {o3 : Option Value} {a4 : Int32} {s0 : Int32} (k : (vp_in a4 200) ∧ (gx_X gm_P (d + 1) 23 (93, [some (.ref 0), o1, o2, some (.int s0), some (.int (S 10 (Int32.toNatClampNeg a4)))], [], gm_h S, bc, bs) Q)) : gx_X gm_P (d + 1) 23 (117, [some (.ref 0), o1, o2, o3, some (.int a4)], [.int s0], gm_h S, bc, bs) Q := gx_X.bs [0, 53, 54, 65, 93, 116, 117, 143, 152, 177, 182, 195] 8 (And.intro (k).1 ((k).2))
theorem gb_emptyNow_143 {d : Nat} {Q : gx_R → Prop} {bc bs : Nat} {S : Nat → Nat → Int32} {a1 : Int32} {a2 : Int32} {o3 : Option Value} {o4 : Option Value} {s0 : Int32} (k : (vp_in a1 200) ∧ (gx_X gm_P (d + 1) 23 (152, [some (.ref 0), some (.int a1), some (.int a2), some (.int s0), some (.int (S 8 (Int32.toNatClampNeg a1)))], [], gm_h S, bc, bs) Q)) : gx_X gm_P (d + 1) 23 (143, [some (.ref 0), some (.int a1), some (.int a2), o3, o4], [.int s0], gm_h S, bc, bs) Q := gx_X.bs [0, 53, 54, 65, 93, 116, 117, 143, 152, 177, 182, 195] 7 (And.intro (k).1 ((k).2))
theorem gb_emptyNow_152 {d : Nat} {Q : gx_R → Prop} {bc bs : Nat} {S : Nat → Nat → Int32} {o1 : Option Value} {a2 : Int32} {a3 : Int32} {a4 : Int32} (k : ((a4 < 0) → gx_X gm_P (d + 1) 23 (195, [some (.ref 0), o1, some (.int a2), some (.int a3), some (.int a4)], [], gm_h S, bc, bs) Q) ∧ ((¬ a4 < 0) → ((¬ a2 = (10)) → gx_X gm_P (d + 1) 23 (195, [some (.ref 0), o1, some (.int a2), some (.int a3), some (.int a4)], [], gm_h S, bc, bs) Q) ∧ ((a2 = (10)) → ((¬ a3 = 0) → gx_X gm_P (d + 1) 23 (177, [some (.ref 0), o1, some (.int a2), some (.int a3), some (.int a4)], [], gm_h S, bc, bs) Q) ∧ ((a3 = 0) → (vp_in a4 200) ∧ ((((S 12 (Int32.toNatClampNeg a4)) = 0) → gx_X gm_P (d + 1) 23 (182, [some (.ref 0), o1, some (.int a2), some (.int a3), some (.int a4)], [.int (0)], gm_h S, bc, bs) Q) ∧ ((¬ (S 12 (Int32.toNatClampNeg a4)) = 0) → gx_X gm_P (d + 1) 23 (177, [some (.ref 0), o1, some (.int a2), some (.int a3), some (.int a4)], [], gm_h S, bc, bs) Q)))))) : gx_X gm_P (d + 1) 23 (152, [some (.ref 0), o1, some (.int a2), some (.int a3), some (.int a4)], [], gm_h S, bc, bs) Q := gx_X.bs [0, 53, 54, 65, 93, 116, 117, 143, 152, 177, 182, 195] 14 (And.intro (fun h4 => ((k).1 h4)) (fun h4 => And.intro (fun h3 => ((((k).2 h4)).1 h3)) (fun h3 => And.intro (fun h2 => ((((((k).2 h4)).2 h3)).1 h2)) (fun h2 => And.intro (((((((k).2 h4)).2 h3)).2 h2)).1 (And.intro (fun h1 => (((((((((k).2 h4)).2 h3)).2 h2)).2).1 h1)) (fun h1 => (((((((((k).2 h4)).2 h3)).2 h2)).2).2 h1)))))))
theorem gb_emptyNow_177 {d : Nat} {Q : gx_R → Prop} {bc bs : Nat} {S : Nat → Nat → Int32} {o1 : Option Value} {a2 : Int32} {o3 : Option Value} {a4 : Int32} (k : gx_X gm_P (d + 1) 23 (182, [some (.ref 0), o1, some (.int a2), o3, some (.int a4)], [.int (1)], gm_h S, bc, bs) Q) : gx_X gm_P (d + 1) 23 (177, [some (.ref 0), o1, some (.int a2), o3, some (.int a4)], [], gm_h S, bc, bs) Q := gx_X.bs [0, 53, 54, 65, 93, 116, 117, 143, 152, 177, 182, 195] 3 (k)
theorem gb_emptyNow_182 {d : Nat} {Q : gx_R → Prop} {bc bs : Nat} {S : Nat → Nat → Int32} {o1 : Option Value} {a2 : Int32} {o3 : Option Value} {a4 : Int32} {s0 : Int32} (k : (vp_in a4 200) ∧ (gx_X gm_P (d + 1) 23 (152, [some (.ref 0), o1, some (.int a2), some (.int s0), some (.int (S 10 (Int32.toNatClampNeg a4)))], [], gm_h S, bc, bs) Q)) : gx_X gm_P (d + 1) 23 (182, [some (.ref 0), o1, some (.int a2), o3, some (.int a4)], [.int s0], gm_h S, bc, bs) Q := gx_X.bs [0, 53, 54, 65, 93, 116, 117, 143, 152, 177, 182, 195] 8 (And.intro (k).1 ((k).2))
theorem gb_emptyNow_195 {d : Nat} {Q : gx_R → Prop} {bc bs : Nat} {S : Nat → Nat → Int32} {o1 : Option Value} {o2 : Option Value} {a3 : Int32} {o4 : Option Value} (k : (narrow .boolean (.int a3) = .int a3) ∧ (Q (.inl (some (.int a3)), gm_h S))) : gx_X gm_P (d + 1) 23 (195, [some (.ref 0), o1, o2, some (.int a3), o4], [], gm_h S, bc, bs) Q := gx_X.bs [0, 53, 54, 65, 93, 116, 117, 143, 152, 177, 182, 195] 2 (And.intro (k).1 ((k).2))
theorem gb_startsNow_0 {d : Nat} {Q : gx_R → Prop} {bc bs : Nat} {S : Nat → Nat → Int32} {a1 : Int32} {o2 : Option Value} {o3 : Option Value} {o4 : Option Value} {o5 : Option Value} (k : (vp_in a1 200) ∧ ((((S 7 (Int32.toNatClampNeg a1)) = 0) → gx_X gm_P (d + 1) 24 (16, [some (.ref 0), some (.int a1), some (.int (S 7 (Int32.toNatClampNeg a1))), o3, o4, o5], [], gm_h S, bc, bs) Q) ∧ ((¬ (S 7 (Int32.toNatClampNeg a1)) = 0) → ((¬ (S 7 (Int32.toNatClampNeg a1)) = (2)) → ((¬ (S 7 (Int32.toNatClampNeg a1)) = (1)) → ((¬ (S 7 (Int32.toNatClampNeg a1)) < (9)) → (vp_in a1 200) ∧ (gx_X gm_P (d + 1) 24 (63, [some (.ref 0), some (.int a1), some (.int (S 7 (Int32.toNatClampNeg a1))), some (.int (0)), some (.int (1)), some (.int (S 8 (Int32.toNatClampNeg a1)))], [], gm_h S, bc, bs) Q)) ∧ (((S 7 (Int32.toNatClampNeg a1)) < (9)) → (vp_in a1 200) ∧ ((vp_in (S 8 (Int32.toNatClampNeg a1)) 200) ∧ (Q (.inl (some (.int (S 13 (Int32.toNatClampNeg (S 8 (Int32.toNatClampNeg a1)))))), gm_h S))))) ∧ (((S 7 (Int32.toNatClampNeg a1)) = (1)) → (vp_in a1 200) ∧ (Q (.inl (some (.int ((1) <<< ((S 8 (Int32.toNatClampNeg a1)) &&& 31)))), gm_h S)))) ∧ (((S 7 (Int32.toNatClampNeg a1)) = (2)) → gx_X gm_P (d + 1) 24 (16, [some (.ref 0), some (.int a1), some (.int (S 7 (Int32.toNatClampNeg a1))), o3, o4, o5], [], gm_h S, bc, bs) Q)))) : gx_X gm_P (d + 1) 24 (0, [some (.ref 0), some (.int a1), o2, o3, o4, o5], [], gm_h S, bc, bs) Q := gx_X.bs [0, 16, 63, 99, 104, 118] 26 (And.intro (k).1 (And.intro (fun h4 => (((k).2).1 h4)) (fun h4 => And.intro (fun h3 => And.intro (fun h2 => And.intro (fun h1 => And.intro ((((((((((k).2).2 h4)).1 h3)).1 h2)).1 h1)).1 (((((((((((k).2).2 h4)).1 h3)).1 h2)).1 h1)).2)) (fun h1 => And.intro ((((((((((k).2).2 h4)).1 h3)).1 h2)).2 h1)).1 (And.intro (((((((((((k).2).2 h4)).1 h3)).1 h2)).2 h1)).2).1 ((((((((((((k).2).2 h4)).1 h3)).1 h2)).2 h1)).2).2)))) (fun h2 => And.intro ((((((((k).2).2 h4)).1 h3)).2 h2)).1 (((((((((k).2).2 h4)).1 h3)).2 h2)).2))) (fun h3 => (((((k).2).2 h4)).2 h3)))))
theorem gb_startsNow_16 {d : Nat} {Q : gx_R → Prop} {bc bs : Nat} {S : Nat → Nat → Int32} {o1 : Option Value} {o2 : Option Value} {o3 : Option Value} {o4 : Option Value} {o5 : Option Value} (k : Q (.inl (some (.int (0))), gm_h S)) : gx_X gm_P (d + 1) 24 (16, [some (.ref 0), o1, o2, o3, o4, o5], [], gm_h S, bc, bs) Q := gx_X.bs [0, 16, 63, 99, 104, 118] 2 (k)
theorem gb_startsNow_63 {d : Nat} {Q : gx_R → Prop} {bc bs : Nat} {S : Nat → Nat → Int32} {o1 : Option Value} {a2 : Int32} {a3 : Int32} {a4 : Int32} {a5 : Int32} (k : ((a5 < 0) → gx_X gm_P (d + 1) 24 (118, [some (.ref 0), o1, some (.int a2), some (.int a3), some (.int a4), some (.int a5)], [], gm_h S, bc, bs) Q) ∧ ((¬ a5 < 0) → ((a4 = 0) → gx_X gm_P (d + 1) 24 (118, [some (.ref 0), o1, some (.int a2), some (.int a3), some (.int a4), some (.int a5)], [], gm_h S, bc, bs) Q) ∧ ((¬ a4 = 0) → (vp_in a5 200) ∧ (((a2 = (10)) → gx_X gm_P (d + 1) 24 (99, [some (.ref 0), o1, some (.int a2), some (.int (a3 ||| (S 13 (Int32.toNatClampNeg a5)))), some (.int a4), some (.int a5)], [], gm_h S, bc, bs) Q) ∧ ((¬ a2 = (10)) → (vp_in a5 200) ∧ ((((S 12 (Int32.toNatClampNeg a5)) = 0) → gx_X gm_P (d + 1) 24 (104, [some (.ref 0), o1, some (.int a2), some (.int (a3 ||| (S 13 (Int32.toNatClampNeg a5)))), some (.int a4), some (.int a5)], [.int (0)], gm_h S, bc, bs) Q) ∧ ((¬ (S 12 (Int32.toNatClampNeg a5)) = 0) → gx_X gm_P (d + 1) 24 (99, [some (.ref 0), o1, some (.int a2), some (.int (a3 ||| (S 13 (Int32.toNatClampNeg a5)))), some (.int a4), some (.int a5)], [], gm_h S, bc, bs) Q))))))) : gx_X gm_P (d + 1) 24 (63, [some (.ref 0), o1, some (.int a2), some (.int a3), some (.int a4), some (.int a5)], [], gm_h S, bc, bs) Q := gx_X.bs [0, 16, 63, 99, 104, 118] 21 (And.intro (fun h4 => ((k).1 h4)) (fun h4 => And.intro (fun h3 => ((((k).2 h4)).1 h3)) (fun h3 => And.intro (((((k).2 h4)).2 h3)).1 (And.intro (fun h2 => (((((((k).2 h4)).2 h3)).2).1 h2)) (fun h2 => And.intro ((((((((k).2 h4)).2 h3)).2).2 h2)).1 (And.intro (fun h1 => ((((((((((k).2 h4)).2 h3)).2).2 h2)).2).1 h1)) (fun h1 => ((((((((((k).2 h4)).2 h3)).2).2 h2)).2).2 h1))))))))
theorem gb_startsNow_99 {d : Nat} {Q : gx_R → Prop} {bc bs : Nat} {S : Nat → Nat → Int32} {o1 : Option Value} {a2 : Int32} {a3 : Int32} {o4 : Option Value} {a5 : Int32} (k : gx_X gm_P (d + 1) 24 (104, [some (.ref 0), o1, some (.int a2), some (.int a3), o4, some (.int a5)], [.int (1)], gm_h S, bc, bs) Q) : gx_X gm_P (d + 1) 24 (99, [some (.ref 0), o1, some (.int a2), some (.int a3), o4, some (.int a5)], [], gm_h S, bc, bs) Q := gx_X.bs [0, 16, 63, 99, 104, 118] 3 (k)
theorem gb_startsNow_104 {d : Nat} {Q : gx_R → Prop} {bc bs : Nat} {S : Nat → Nat → Int32} {o1 : Option Value} {a2 : Int32} {a3 : Int32} {o4 : Option Value} {a5 : Int32} {s0 : Int32} (k : (vp_in a5 200) ∧ (gx_X gm_P (d + 1) 24 (63, [some (.ref 0), o1, some (.int a2), some (.int a3), some (.int s0), some (.int (S 10 (Int32.toNatClampNeg a5)))], [], gm_h S, bc, bs) Q)) : gx_X gm_P (d + 1) 24 (104, [some (.ref 0), o1, some (.int a2), some (.int a3), o4, some (.int a5)], [.int s0], gm_h S, bc, bs) Q := gx_X.bs [0, 16, 63, 99, 104, 118] 8 (And.intro (k).1 ((k).2))
theorem gb_startsNow_118 {d : Nat} {Q : gx_R → Prop} {bc bs : Nat} {S : Nat → Nat → Int32} {o1 : Option Value} {o2 : Option Value} {a3 : Int32} {o4 : Option Value} {o5 : Option Value} (k : Q (.inl (some (.int a3)), gm_h S)) : gx_X gm_P (d + 1) 24 (118, [some (.ref 0), o1, o2, some (.int a3), o4, o5], [], gm_h S, bc, bs) Q := gx_X.bs [0, 16, 63, 99, 104, 118] 2 (k)
theorem gb_work_0 {d : Nat} {Q : gx_R → Prop} {bc bs : Nat} {S : Nat → Nat → Int32} {o1 : Option Value} {o2 : Option Value} {o3 : Option Value} {o4 : Option Value} (k : gx_X gm_P (d + 1) 25 (2, [some (.ref 0), some (.int (0)), o2, o3, o4], [], gm_h S, bc, bs) Q) : gx_X gm_P (d + 1) 25 (0, [some (.ref 0), o1, o2, o3, o4], [], gm_h S, bc, bs) Q := gx_X.bs [0, 2, 31, 41, 50, 58, 64, 91, 96, 112, 123, 140, 161, 192, 198] 3 (k)
theorem gb_work_2 {d : Nat} {Q : gx_R → Prop} {bc bs : Nat} {S : Nat → Nat → Int32} {a1 : Int32} {o2 : Option Value} {o3 : Option Value} {o4 : Option Value} (k : ((¬ a1 < (200)) → gx_X gm_P (d + 1) 25 (31, [some (.ref 0), some (.int (1)), o2, o3, o4], [], gm_h S, bc, bs) Q) ∧ ((a1 < (200)) → (vp_in a1 200) ∧ ((vp_in a1 200) ∧ (gx_X gm_P (d + 1) 25 (2, [some (.ref 0), some (.int (a1 + Int32.ofInt (1))), o2, o3, o4], [], gm_h (gm_u (gm_u S 12 (Int32.toNatClampNeg a1) (vp_nar .boolean (0))) 13 (Int32.toNatClampNeg a1) (0)), bc, bs) Q)))) : gx_X gm_P (d + 1) 25 (2, [some (.ref 0), some (.int a1), o2, o3, o4], [], gm_h S, bc, bs) Q := gx_X.bs [0, 2, 31, 41, 50, 58, 64, 91, 96, 112, 123, 140, 161, 192, 198] 16 (And.intro (fun h1 => ((k).1 h1)) (fun h1 => And.intro (((k).2 h1)).1 (And.intro ((((k).2 h1)).2).1 (((((k).2 h1)).2).2))))
theorem gb_work_31 {d : Nat} {Q : gx_R → Prop} {bc bs : Nat} {S : Nat → Nat → Int32} {a1 : Int32} {o2 : Option Value} {o3 : Option Value} {o4 : Option Value} (k : ((a1 = 0) → gx_X gm_P (d + 1) 25 (123, [some (.ref 0), some (.int a1), some (.int (0)), o3, o4], [], gm_h S, bc, bs) Q) ∧ ((¬ a1 = 0) → gx_X gm_P (d + 1) 25 (41, [some (.ref 0), some (.int (0)), some (.int (159)), o3, o4], [], gm_h S, bc, bs) Q)) : gx_X gm_P (d + 1) 25 (31, [some (.ref 0), some (.int a1), o2, o3, o4], [], gm_h S, bc, bs) Q := gx_X.bs [0, 2, 31, 41, 50, 58, 64, 91, 96, 112, 123, 140, 161, 192, 198] 7 (And.intro (fun h1 => ((k).1 h1)) (fun h1 => ((k).2 h1)))
theorem gb_work_41 {d : Nat} {Q : gx_R → Prop} {bc bs : Nat} {S : Nat → Nat → Int32} {a1 : Int32} {a2 : Int32} {o3 : Option Value} {o4 : Option Value} (k : ((a2 < 0) → gx_X gm_P (d + 1) 25 (31, [some (.ref 0), some (.int a1), some (.int a2), o3, o4], [], gm_h S, bc, bs) Q) ∧ ((¬ a2 < 0) → gx_X gm_P d 22 (0, [some (.ref 0), some (.int a2)], [], gm_h S, 0, 0) (gx_k [some (.ref 0), some (.int a1), some (.int a2), o3, o4] [] 50 bc bs (fun S9 => gx_X gm_P (d + 1) 25 S9 Q) Q))) : gx_X gm_P (d + 1) 25 (41, [some (.ref 0), some (.int a1), some (.int a2), o3, o4], [], gm_h S, bc, bs) Q := gx_X.bs [0, 2, 31, 41, 50, 58, 64, 91, 96, 112, 123, 140, 161, 192, 198] 5 (And.intro (fun h1 => ((k).1 h1)) (fun h1 => ⟨0, 0, ⟨Nat.zero_le _, Nat.zero_le _⟩, ((k).2 h1)⟩))
theorem gb_work_50 {d : Nat} {Q : gx_R → Prop} {bc bs : Nat} {S : Nat → Nat → Int32} {a1 : Int32} {a2 : Int32} {o3 : Option Value} {o4 : Option Value} {s0 : Int32} (k : ((s0 = 0) → gx_X gm_P (d + 1) 25 (112, [some (.ref 0), some (.int a1), some (.int a2), o3, o4], [], gm_h S, bc, bs) Q) ∧ ((¬ s0 = 0) → gx_X gm_P d 23 (0, [some (.ref 0), some (.int a2), none, none, none], [], gm_h S, 0, 0) (gx_k [some (.ref 0), some (.int a1), some (.int a2), o3, o4] [] 58 bc bs (fun S9 => gx_X gm_P (d + 1) 25 S9 Q) Q))) : gx_X gm_P (d + 1) 25 (50, [some (.ref 0), some (.int a1), some (.int a2), o3, o4], [.int s0], gm_h S, bc, bs) Q := gx_X.bs [0, 2, 31, 41, 50, 58, 64, 91, 96, 112, 123, 140, 161, 192, 198] 4 (And.intro (fun h1 => ((k).1 h1)) (fun h1 => ⟨0, 0, ⟨Nat.zero_le _, Nat.zero_le _⟩, ((k).2 h1)⟩))
theorem gb_work_58 {d : Nat} {Q : gx_R → Prop} {bc bs : Nat} {S : Nat → Nat → Int32} {a1 : Int32} {a2 : Int32} {o3 : Option Value} {o4 : Option Value} {s0 : Int32} (k : gx_X gm_P d 24 (0, [some (.ref 0), some (.int a2), none, none, none, none], [], gm_h S, 0, 0) (gx_k [some (.ref 0), some (.int a1), some (.int a2), some (.int s0), o4] [] 64 bc bs (fun S9 => gx_X gm_P (d + 1) 25 S9 Q) Q)) : gx_X gm_P (d + 1) 25 (58, [some (.ref 0), some (.int a1), some (.int a2), o3, o4], [.int s0], gm_h S, bc, bs) Q := gx_X.bs [0, 2, 31, 41, 50, 58, 64, 91, 96, 112, 123, 140, 161, 192, 198] 4 (⟨0, 0, ⟨Nat.zero_le _, Nat.zero_le _⟩, k⟩)
theorem gb_work_64 {d : Nat} {Q : gx_R → Prop} {bc bs : Nat} {S : Nat → Nat → Int32} {a1 : Int32} {a2 : Int32} {a3 : Int32} {o4 : Option Value} {s0 : Int32} (k : ((¬ a1 = 0) → gx_X gm_P (d + 1) 25 (91, [some (.ref 0), some (.int a1), some (.int a2), some (.int a3), some (.int s0)], [], gm_h S, bc, bs) Q) ∧ ((a1 = 0) → (vp_in a2 200) ∧ (((¬ a3 = (S 12 (Int32.toNatClampNeg a2))) → gx_X gm_P (d + 1) 25 (91, [some (.ref 0), some (.int a1), some (.int a2), some (.int a3), some (.int s0)], [], gm_h S, bc, bs) Q) ∧ ((a3 = (S 12 (Int32.toNatClampNeg a2))) → (vp_in a2 200) ∧ (((s0 = (S 13 (Int32.toNatClampNeg a2))) → gx_X gm_P (d + 1) 25 (96, [some (.ref 0), some (.int a1), some (.int a2), some (.int a3), some (.int s0)], [.int (0)], gm_h S, bc, bs) Q) ∧ ((¬ s0 = (S 13 (Int32.toNatClampNeg a2))) → gx_X gm_P (d + 1) 25 (91, [some (.ref 0), some (.int a1), some (.int a2), some (.int a3), some (.int s0)], [], gm_h S, bc, bs) Q)))))) : gx_X gm_P (d + 1) 25 (64, [some (.ref 0), some (.int a1), some (.int a2), some (.int a3), o4], [.int s0], gm_h S, bc, bs) Q := gx_X.bs [0, 2, 31, 41, 50, 58, 64, 91, 96, 112, 123, 140, 161, 192, 198] 17 (And.intro (fun h3 => ((k).1 h3)) (fun h3 => And.intro (((k).2 h3)).1 (And.intro (fun h2 => (((((k).2 h3)).2).1 h2)) (fun h2 => And.intro ((((((k).2 h3)).2).2 h2)).1 (And.intro (fun h1 => ((((((((k).2 h3)).2).2 h2)).2).1 h1)) (fun h1 => ((((((((k).2 h3)).2).2 h2)).2).2 h1)))))))
theorem gb_work_91 {d : Nat} {Q : gx_R → Prop} {bc bs : Nat} {S : Nat → Nat → Int32} {o1 : Option Value} {a2 : Int32} {a3 : Int32} {a4 : Int32} (k : gx_X gm_P (d + 1) 25 (96, [some (.ref 0), o1, some (.int a2), some (.int a3), some (.int a4)], [.int (1)], gm_h S, bc, bs) Q) : gx_X gm_P (d + 1) 25 (91, [some (.ref 0), o1, some (.int a2), some (.int a3), some (.int a4)], [], gm_h S, bc, bs) Q := gx_X.bs [0, 2, 31, 41, 50, 58, 64, 91, 96, 112, 123, 140, 161, 192, 198] 3 (k)
theorem gb_work_96 {d : Nat} {Q : gx_R → Prop} {bc bs : Nat} {S : Nat → Nat → Int32} {o1 : Option Value} {a2 : Int32} {a3 : Int32} {a4 : Int32} {s0 : Int32} (k : (vp_in a2 200) ∧ ((vp_in a2 200) ∧ (gx_X gm_P (d + 1) 25 (112, [some (.ref 0), some (.int s0), some (.int a2), some (.int a3), some (.int a4)], [], gm_h (gm_u (gm_u S 12 (Int32.toNatClampNeg a2) (vp_nar .boolean a3)) 13 (Int32.toNatClampNeg a2) a4), bc, bs) Q))) : gx_X gm_P (d + 1) 25 (96, [some (.ref 0), o1, some (.int a2), some (.int a3), some (.int a4)], [.int s0], gm_h S, bc, bs) Q := gx_X.bs [0, 2, 31, 41, 50, 58, 64, 91, 96, 112, 123, 140, 161, 192, 198] 12 (And.intro (k).1 (And.intro ((k).2).1 (((k).2).2)))
theorem gb_work_112 {d : Nat} {Q : gx_R → Prop} {bc bs : Nat} {S : Nat → Nat → Int32} {a1 : Int32} {a2 : Int32} {o3 : Option Value} {o4 : Option Value} (k : gx_X gm_P (d + 1) 25 (41, [some (.ref 0), some (.int a1), some (.int (a2 + Int32.ofInt (-1))), o3, o4], [], gm_h S, bc, bs) Q) : gx_X gm_P (d + 1) 25 (112, [some (.ref 0), some (.int a1), some (.int a2), o3, o4], [], gm_h S, bc, bs) Q := gx_X.bs [0, 2, 31, 41, 50, 58, 64, 91, 96, 112, 123, 140, 161, 192, 198] 3 (k)
theorem gb_work_123 {d : Nat} {Q : gx_R → Prop} {bc bs : Nat} {S : Nat → Nat → Int32} {o1 : Option Value} {a2 : Int32} {o3 : Option Value} {o4 : Option Value} (k : ((¬ a2 < (4)) → Q (.inl none, gm_h S)) ∧ ((a2 < (4)) → (vp_in a2 4) ∧ (gx_X gm_P (d + 1) 25 (140, [some (.ref 0), o1, some (.int a2), some (.int ((40) * a2)), o4], [], gm_h (gm_u S 14 (Int32.toNatClampNeg a2) (0)), bc, bs) Q))) : gx_X gm_P (d + 1) 25 (123, [some (.ref 0), o1, some (.int a2), o3, o4], [], gm_h S, bc, bs) Q := gx_X.bs [0, 2, 31, 41, 50, 58, 64, 91, 96, 112, 123, 140, 161, 192, 198] 13 (And.intro (fun h1 => ((k).1 h1)) (fun h1 => And.intro (((k).2 h1)).1 ((((k).2 h1)).2)))
theorem gb_work_140 {d : Nat} {Q : gx_R → Prop} {bc bs : Nat} {S : Nat → Nat → Int32} {o1 : Option Value} {a2 : Int32} {a3 : Int32} {o4 : Option Value} (k : ((¬ a3 < (((40) * a2) + (40))) → gx_X gm_P (d + 1) 25 (123, [some (.ref 0), o1, some (.int (a2 + Int32.ofInt (1))), some (.int a3), o4], [], gm_h S, bc, bs) Q) ∧ ((a3 < (((40) * a2) + (40))) → gx_X gm_P d 22 (0, [some (.ref 0), some (.int a3)], [], gm_h S, 0, 0) (gx_k [some (.ref 0), o1, some (.int a2), some (.int a3), o4] [.int a2, .ref 14] 161 bc bs (fun S9 => gx_X gm_P (d + 1) 25 S9 Q) Q))) : gx_X gm_P (d + 1) 25 (140, [some (.ref 0), o1, some (.int a2), some (.int a3), o4], [], gm_h S, bc, bs) Q := gx_X.bs [0, 2, 31, 41, 50, 58, 64, 91, 96, 112, 123, 140, 161, 192, 198] 13 (And.intro (fun h1 => ((k).1 h1)) (fun h1 => ⟨0, 0, ⟨Nat.zero_le _, Nat.zero_le _⟩, ((k).2 h1)⟩))
theorem gb_work_161 {d : Nat} {Q : gx_R → Prop} {bc bs : Nat} {S : Nat → Nat → Int32} {o1 : Option Value} {a2 : Int32} {a3 : Int32} {o4 : Option Value} {s0 : Int32} {s1 : Int32} (k : ((s0 = 0) → gx_X gm_P (d + 1) 25 (192, [some (.ref 0), o1, some (.int a2), some (.int a3), o4], [.int s1, .ref 14], gm_h S, bc, bs) Q) ∧ ((¬ s0 = 0) → (vp_in a3 200) ∧ (((¬ (S 7 (Int32.toNatClampNeg a3)) = (1)) → gx_X gm_P (d + 1) 25 (192, [some (.ref 0), o1, some (.int a2), some (.int a3), o4], [.int s1, .ref 14], gm_h S, bc, bs) Q) ∧ (((S 7 (Int32.toNatClampNeg a3)) = (1)) → (vp_in a2 4) ∧ ((vp_in a3 200) ∧ (gx_X gm_P (d + 1) 25 (198, [some (.ref 0), o1, some (.int a2), some (.int a3), o4], [.int ((S 14 (Int32.toNatClampNeg a2)) ||| ((1) <<< ((S 8 (Int32.toNatClampNeg a3)) &&& 31))), .int s1, .ref 14], gm_h S, bc, bs) Q)))))) : gx_X gm_P (d + 1) 25 (161, [some (.ref 0), o1, some (.int a2), some (.int a3), o4], [.int s0, .int s1, .ref 14], gm_h S, bc, bs) Q := gx_X.bs [0, 2, 31, 41, 50, 58, 64, 91, 96, 112, 123, 140, 161, 192, 198] 20 (And.intro (fun h2 => ((k).1 h2)) (fun h2 => And.intro (((k).2 h2)).1 (And.intro (fun h1 => (((((k).2 h2)).2).1 h1)) (fun h1 => And.intro ((((((k).2 h2)).2).2 h1)).1 (And.intro (((((((k).2 h2)).2).2 h1)).2).1 ((((((((k).2 h2)).2).2 h1)).2).2))))))
theorem gb_work_192 {d : Nat} {Q : gx_R → Prop} {bc bs : Nat} {S : Nat → Nat → Int32} {o1 : Option Value} {a2 : Int32} {a3 : Int32} {o4 : Option Value} {s0 : Int32} (k : (vp_in a2 4) ∧ (gx_X gm_P (d + 1) 25 (198, [some (.ref 0), o1, some (.int a2), some (.int a3), o4], [.int (S 14 (Int32.toNatClampNeg a2)), .int s0, .ref 14], gm_h S, bc, bs) Q)) : gx_X gm_P (d + 1) 25 (192, [some (.ref 0), o1, some (.int a2), some (.int a3), o4], [.int s0, .ref 14], gm_h S, bc, bs) Q := gx_X.bs [0, 2, 31, 41, 50, 58, 64, 91, 96, 112, 123, 140, 161, 192, 198] 5 (And.intro (k).1 ((k).2))
theorem gb_work_198 {d : Nat} {Q : gx_R → Prop} {bc bs : Nat} {S : Nat → Nat → Int32} {o1 : Option Value} {a2 : Int32} {a3 : Int32} {o4 : Option Value} {s0 : Int32} {s1 : Int32} (k : (vp_in s1 4) ∧ (gx_X gm_P (d + 1) 25 (140, [some (.ref 0), o1, some (.int a2), some (.int (a3 + Int32.ofInt (1))), o4], [], gm_h (gm_u S 14 (Int32.toNatClampNeg s1) s0), bc, bs) Q)) : gx_X gm_P (d + 1) 25 (198, [some (.ref 0), o1, some (.int a2), some (.int a3), o4], [.int s0, .int s1, .ref 14], gm_h S, bc, bs) Q := gx_X.bs [0, 2, 31, 41, 50, 58, 64, 91, 96, 112, 123, 140, 161, 192, 198] 4 (And.intro (k).1 ((k).2))
theorem gb_reached_0 {d : Nat} {Q : gx_R → Prop} {bc bs : Nat} {S : Nat → Nat → Int32} {a1 : Int32} {a2 : Int32} {o3 : Option Value} {o4 : Option Value} {o5 : Option Value} (k : gx_X gm_P (d + 1) 26 (5, [some (.ref 0), some (.int a1), some (.int a2), some (.int a1), some (.int (0)), o5], [], gm_h S, bc, bs) Q) : gx_X gm_P (d + 1) 26 (0, [some (.ref 0), some (.int a1), some (.int a2), o3, o4, o5], [], gm_h S, bc, bs) Q := gx_X.bs [0, 5, 14, 65, 67] 5 (k)
theorem gb_reached_5 {d : Nat} {Q : gx_R → Prop} {bc bs : Nat} {S : Nat → Nat → Int32} {o1 : Option Value} {a2 : Int32} {a3 : Int32} {a4 : Int32} {o5 : Option Value} (k : ((¬ a4 < (4)) → Q (.inl (some (.int a3)), gm_h S)) ∧ ((a4 < (4)) → gx_X gm_P (d + 1) 26 (14, [some (.ref 0), o1, some (.int a2), some (.int a3), some (.int a4), some (.int (0))], [], gm_h S, bc, bs) Q)) : gx_X gm_P (d + 1) 26 (5, [some (.ref 0), o1, some (.int a2), some (.int a3), some (.int a4), o5], [], gm_h S, bc, bs) Q := gx_X.bs [0, 5, 14, 65, 67] 6 (And.intro (fun h1 => ((k).1 h1)) (fun h1 => ((k).2 h1)))
theorem gb_reached_14 {d : Nat} {Q : gx_R → Prop} {bc bs : Nat} {S : Nat → Nat → Int32} {o1 : Option Value} {a2 : Int32} {a3 : Int32} {a4 : Int32} {a5 : Int32} (k : ((¬ a5 < (4)) → gx_X gm_P (d + 1) 26 (5, [some (.ref 0), o1, some (.int a2), some (.int a3), some (.int (a4 + Int32.ofInt (1))), some (.int a5)], [], gm_h S, bc, bs) Q) ∧ ((a5 < (4)) → ((¬ ((a3 >>> (a5 &&& 31)) &&& (1)) = (1)) → gx_X gm_P (d + 1) 26 (67, [some (.ref 0), o1, some (.int a2), some (.int a3), some (.int a4), some (.int a5)], [], gm_h S, bc, bs) Q) ∧ ((((a3 >>> (a5 &&& 31)) &&& (1)) = (1)) → (vp_in a5 4) ∧ ((((S 3 (Int32.toNatClampNeg a5)) = 0) → gx_X gm_P (d + 1) 26 (67, [some (.ref 0), o1, some (.int a2), some (.int a3), some (.int a4), some (.int a5)], [], gm_h S, bc, bs) Q) ∧ ((¬ (S 3 (Int32.toNatClampNeg a5)) = 0) → ((¬ a2 = 0) → (vp_in ((40) * a5) 200) ∧ (gx_X gm_P (d + 1) 26 (65, [some (.ref 0), o1, some (.int a2), some (.int a3), some (.int a4), some (.int a5)], [.int (S 13 (Int32.toNatClampNeg ((40) * a5))), .int a3], gm_h S, bc, bs) Q)) ∧ ((a2 = 0) → (vp_in a5 4) ∧ (gx_X gm_P (d + 1) 26 (65, [some (.ref 0), o1, some (.int a2), some (.int a3), some (.int a4), some (.int a5)], [.int (S 14 (Int32.toNatClampNeg a5)), .int a3], gm_h S, bc, bs) Q))))))) : gx_X gm_P (d + 1) 26 (14, [some (.ref 0), o1, some (.int a2), some (.int a3), some (.int a4), some (.int a5)], [], gm_h S, bc, bs) Q := gx_X.bs [0, 5, 14, 65, 67] 25 (And.intro (fun h4 => ((k).1 h4)) (fun h4 => And.intro (fun h3 => ((((k).2 h4)).1 h3)) (fun h3 => And.intro (((((k).2 h4)).2 h3)).1 (And.intro (fun h2 => (((((((k).2 h4)).2 h3)).2).1 h2)) (fun h2 => And.intro (fun h1 => And.intro ((((((((((k).2 h4)).2 h3)).2).2 h2)).1 h1)).1 (((((((((((k).2 h4)).2 h3)).2).2 h2)).1 h1)).2)) (fun h1 => And.intro ((((((((((k).2 h4)).2 h3)).2).2 h2)).2 h1)).1 (((((((((((k).2 h4)).2 h3)).2).2 h2)).2 h1)).2)))))))
theorem gb_reached_65 {d : Nat} {Q : gx_R → Prop} {bc bs : Nat} {S : Nat → Nat → Int32} {o1 : Option Value} {a2 : Int32} {o3 : Option Value} {a4 : Int32} {a5 : Int32} {s0 : Int32} {s1 : Int32} (k : gx_X gm_P (d + 1) 26 (67, [some (.ref 0), o1, some (.int a2), some (.int (s1 ||| s0)), some (.int a4), some (.int a5)], [], gm_h S, bc, bs) Q) : gx_X gm_P (d + 1) 26 (65, [some (.ref 0), o1, some (.int a2), o3, some (.int a4), some (.int a5)], [.int s0, .int s1], gm_h S, bc, bs) Q := gx_X.bs [0, 5, 14, 65, 67] 3 (k)
theorem gb_reached_67 {d : Nat} {Q : gx_R → Prop} {bc bs : Nat} {S : Nat → Nat → Int32} {o1 : Option Value} {a2 : Int32} {a3 : Int32} {a4 : Int32} {a5 : Int32} (k : gx_X gm_P (d + 1) 26 (14, [some (.ref 0), o1, some (.int a2), some (.int a3), some (.int a4), some (.int (a5 + Int32.ofInt (1)))], [], gm_h S, bc, bs) Q) : gx_X gm_P (d + 1) 26 (67, [some (.ref 0), o1, some (.int a2), some (.int a3), some (.int a4), some (.int a5)], [], gm_h S, bc, bs) Q := gx_X.bs [0, 5, 14, 65, 67] 3 (k)
theorem gb_checked_0 {d : Nat} {Q : gx_R → Prop} {bc bs : Nat} {S : Nat → Nat → Int32} {a1 : Int32} {o2 : Option Value} {o3 : Option Value} {o4 : Option Value} {o5 : Option Value} {o6 : Option Value} {o7 : Option Value} (k : gx_X gm_P d 25 (0, [some (.ref 0), none, none, none, none], [], gm_h S, 0, 0) (gx_k [some (.ref 0), some (.int a1), o2, o3, o4, o5, o6, o7] [] 4 bc bs (fun S9 => gx_X gm_P (d + 1) 27 S9 Q) Q)) : gx_X gm_P (d + 1) 27 (0, [some (.ref 0), some (.int a1), o2, o3, o4, o5, o6, o7], [], gm_h S, bc, bs) Q := gx_X.bs [0, 4, 12, 24, 54, 59, 90, 99, 103, 104, 113, 137, 162, 177, 181, 182, 190, 223] 2 (⟨0, 0, ⟨Nat.zero_le _, Nat.zero_le _⟩, k⟩)
theorem gb_checked_4 {d : Nat} {Q : gx_R → Prop} {bc bs : Nat} {S : Nat → Nat → Int32} {a1 : Int32} {o2 : Option Value} {o3 : Option Value} {o4 : Option Value} {o5 : Option Value} {o6 : Option Value} {o7 : Option Value} (k : gx_X gm_P d 26 (0, [some (.ref 0), some (.int ((1) <<< (a1 &&& 31))), some (.int (0)), none, none, none], [], gm_h S, 0, 0) (gx_k [some (.ref 0), some (.int a1), o2, o3, o4, o5, o6, o7] [] 12 bc bs (fun S9 => gx_X gm_P (d + 1) 27 S9 Q) Q)) : gx_X gm_P (d + 1) 27 (4, [some (.ref 0), some (.int a1), o2, o3, o4, o5, o6, o7], [], gm_h S, bc, bs) Q := gx_X.bs [0, 4, 12, 24, 54, 59, 90, 99, 103, 104, 113, 137, 162, 177, 181, 182, 190, 223] 6 (⟨0, 0, ⟨Nat.zero_le _, Nat.zero_le _⟩, k⟩)
theorem gb_checked_12 {d : Nat} {Q : gx_R → Prop} {bc bs : Nat} {S : Nat → Nat → Int32} {o1 : Option Value} {o2 : Option Value} {o3 : Option Value} {o4 : Option Value} {o5 : Option Value} {o6 : Option Value} {o7 : Option Value} {s0 : Int32} (k : gx_X gm_P (d + 1) 27 (24, [some (.ref 0), o1, some (.int s0), some (.int (0)), some (.int (0)), some (.int (0)), some (.int (0)), o7], [], gm_h S, bc, bs) Q) : gx_X gm_P (d + 1) 27 (12, [some (.ref 0), o1, o2, o3, o4, o5, o6, o7], [.int s0], gm_h S, bc, bs) Q := gx_X.bs [0, 4, 12, 24, 54, 59, 90, 99, 103, 104, 113, 137, 162, 177, 181, 182, 190, 223] 10 (k)
theorem gb_checked_24 {d : Nat} {Q : gx_R → Prop} {bc bs : Nat} {S : Nat → Nat → Int32} {o1 : Option Value} {a2 : Int32} {a3 : Int32} {a4 : Int32} {a5 : Int32} {a6 : Int32} {o7 : Option Value} (k : ((¬ a6 < (4)) → ((a3 = 0) → ((a4 = 0) → ((a5 = 0) → gx_X gm_P (d + 1) 27 (223, [some (.ref 0), o1, some (.int a2), some (.int a3), some (.int a4), some (.int a5), some (.int a6), o7], [.int (0)], gm_h S, bc, bs) Q) ∧ ((¬ a5 = 0) → gx_X gm_P (d + 1) 27 (223, [some (.ref 0), o1, some (.int a2), some (.int a3), some (.int a4), some (.int a5), some (.int a6), o7], [.int (3)], gm_h S, bc, bs) Q)) ∧ ((¬ a4 = 0) → gx_X gm_P (d + 1) 27 (223, [some (.ref 0), o1, some (.int a2), some (.int a3), some (.int a4), some (.int a5), some (.int a6), o7], [.int (2)], gm_h S, bc, bs) Q)) ∧ ((¬ a3 = 0) → gx_X gm_P (d + 1) 27 (223, [some (.ref 0), o1, some (.int a2), some (.int a3), some (.int a4), some (.int a5), some (.int a6), o7], [.int (1)], gm_h S, bc, bs) Q)) ∧ ((a6 < (4)) → ((¬ ((a2 >>> (a6 &&& 31)) &&& (1)) = (1)) → gx_X gm_P (d + 1) 27 (190, [some (.ref 0), o1, some (.int a2), some (.int a3), some (.int a4), some (.int a5), some (.int a6), o7], [], gm_h S, bc, bs) Q) ∧ ((((a2 >>> (a6 &&& 31)) &&& (1)) = (1)) → ((¬ a3 = 0) → gx_X gm_P (d + 1) 27 (54, [some (.ref 0), o1, some (.int a2), some (.int a3), some (.int a4), some (.int a5), some (.int a6), o7], [], gm_h S, bc, bs) Q) ∧ ((a3 = 0) → (vp_in a6 4) ∧ (((¬ (S 3 (Int32.toNatClampNeg a6)) = 0) → gx_X gm_P (d + 1) 27 (59, [some (.ref 0), o1, some (.int a2), some (.int a3), some (.int a4), some (.int a5), some (.int a6), o7], [.int (0)], gm_h S, bc, bs) Q) ∧ (((S 3 (Int32.toNatClampNeg a6)) = 0) → gx_X gm_P (d + 1) 27 (54, [some (.ref 0), o1, some (.int a2), some (.int a3), some (.int a4), some (.int a5), some (.int a6), o7], [], gm_h S, bc, bs) Q)))))) : gx_X gm_P (d + 1) 27 (24, [some (.ref 0), o1, some (.int a2), some (.int a3), some (.int a4), some (.int a5), some (.int a6), o7], [], gm_h S, bc, bs) Q := gx_X.bs [0, 4, 12, 24, 54, 59, 90, 99, 103, 104, 113, 137, 162, 177, 181, 182, 190, 223] 19 (And.intro (fun h7 => And.intro (fun h3 => And.intro (fun h2 => And.intro (fun h1 => ((((((((k).1 h7)).1 h3)).1 h2)).1 h1)) (fun h1 => ((((((((k).1 h7)).1 h3)).1 h2)).2 h1))) (fun h2 => ((((((k).1 h7)).1 h3)).2 h2))) (fun h3 => ((((k).1 h7)).2 h3))) (fun h7 => And.intro (fun h6 => ((((k).2 h7)).1 h6)) (fun h6 => And.intro (fun h5 => ((((((k).2 h7)).2 h6)).1 h5)) (fun h5 => And.intro (((((((k).2 h7)).2 h6)).2 h5)).1 (And.intro (fun h4 => (((((((((k).2 h7)).2 h6)).2 h5)).2).1 h4)) (fun h4 => (((((((((k).2 h7)).2 h6)).2 h5)).2).2 h4)))))))
theorem gb_checked_54 {d : Nat} {Q : gx_R → Prop} {bc bs : Nat} {S : Nat → Nat → Int32} {o1 : Option Value} {a2 : Int32} {o3 : Option Value} {a4 : Int32} {a5 : Int32} {a6 : Int32} {o7 : Option Value} (k : gx_X gm_P (d + 1) 27 (59, [some (.ref 0), o1, some (.int a2), o3, some (.int a4), some (.int a5), some (.int a6), o7], [.int (1)], gm_h S, bc, bs) Q) : gx_X gm_P (d + 1) 27 (54, [some (.ref 0), o1, some (.int a2), o3, some (.int a4), some (.int a5), some (.int a6), o7], [], gm_h S, bc, bs) Q := gx_X.bs [0, 4, 12, 24, 54, 59, 90, 99, 103, 104, 113, 137, 162, 177, 181, 182, 190, 223] 3 (k)
theorem gb_checked_59 {d : Nat} {Q : gx_R → Prop} {bc bs : Nat} {S : Nat → Nat → Int32} {o1 : Option Value} {a2 : Int32} {o3 : Option Value} {a4 : Int32} {a5 : Int32} {a6 : Int32} {o7 : Option Value} {s0 : Int32} (k : ((¬ a4 = 0) → gx_X gm_P (d + 1) 27 (99, [some (.ref 0), o1, some (.int a2), some (.int s0), some (.int a4), some (.int a5), some (.int a6), o7], [], gm_h S, bc, bs) Q) ∧ ((a4 = 0) → (vp_in a6 4) ∧ ((((S 3 (Int32.toNatClampNeg a6)) = 0) → gx_X gm_P (d + 1) 27 (103, [some (.ref 0), o1, some (.int a2), some (.int s0), some (.int a4), some (.int a5), some (.int a6), o7], [], gm_h S, bc, bs) Q) ∧ ((¬ (S 3 (Int32.toNatClampNeg a6)) = 0) → (vp_in ((40) * a6) 200) ∧ (gx_X gm_P d 26 (0, [some (.ref 0), some (.int (S 13 (Int32.toNatClampNeg ((40) * a6)))), some (.int (1)), none, none, none], [], gm_h S, 0, 0) (gx_k [some (.ref 0), o1, some (.int a2), some (.int s0), some (.int a4), some (.int a5), some (.int a6), o7] [] 90 bc bs (fun S9 => gx_X gm_P (d + 1) 27 S9 Q) Q)))))) : gx_X gm_P (d + 1) 27 (59, [some (.ref 0), o1, some (.int a2), o3, some (.int a4), some (.int a5), some (.int a6), o7], [.int s0], gm_h S, bc, bs) Q := gx_X.bs [0, 4, 12, 24, 54, 59, 90, 99, 103, 104, 113, 137, 162, 177, 181, 182, 190, 223] 17 (And.intro (fun h2 => ((k).1 h2)) (fun h2 => And.intro (((k).2 h2)).1 (And.intro (fun h1 => (((((k).2 h2)).2).1 h1)) (fun h1 => And.intro ((((((k).2 h2)).2).2 h1)).1 (⟨0, 0, ⟨Nat.zero_le _, Nat.zero_le _⟩, ((((((k).2 h2)).2).2 h1)).2⟩)))))
theorem gb_checked_90 {d : Nat} {Q : gx_R → Prop} {bc bs : Nat} {S : Nat → Nat → Int32} {o1 : Option Value} {a2 : Int32} {a3 : Int32} {o4 : Option Value} {a5 : Int32} {a6 : Int32} {o7 : Option Value} {s0 : Int32} (k : ((¬ ((s0 >>> (a6 &&& 31)) &&& (1)) = (1)) → gx_X gm_P (d + 1) 27 (103, [some (.ref 0), o1, some (.int a2), some (.int a3), o4, some (.int a5), some (.int a6), o7], [], gm_h S, bc, bs) Q) ∧ ((((s0 >>> (a6 &&& 31)) &&& (1)) = (1)) → gx_X gm_P (d + 1) 27 (99, [some (.ref 0), o1, some (.int a2), some (.int a3), o4, some (.int a5), some (.int a6), o7], [], gm_h S, bc, bs) Q)) : gx_X gm_P (d + 1) 27 (90, [some (.ref 0), o1, some (.int a2), some (.int a3), o4, some (.int a5), some (.int a6), o7], [.int s0], gm_h S, bc, bs) Q := gx_X.bs [0, 4, 12, 24, 54, 59, 90, 99, 103, 104, 113, 137, 162, 177, 181, 182, 190, 223] 7 (And.intro (fun h1 => ((k).1 h1)) (fun h1 => ((k).2 h1)))
theorem gb_checked_99 {d : Nat} {Q : gx_R → Prop} {bc bs : Nat} {S : Nat → Nat → Int32} {o1 : Option Value} {a2 : Int32} {a3 : Int32} {o4 : Option Value} {a5 : Int32} {a6 : Int32} {o7 : Option Value} (k : gx_X gm_P (d + 1) 27 (104, [some (.ref 0), o1, some (.int a2), some (.int a3), o4, some (.int a5), some (.int a6), o7], [.int (1)], gm_h S, bc, bs) Q) : gx_X gm_P (d + 1) 27 (99, [some (.ref 0), o1, some (.int a2), some (.int a3), o4, some (.int a5), some (.int a6), o7], [], gm_h S, bc, bs) Q := gx_X.bs [0, 4, 12, 24, 54, 59, 90, 99, 103, 104, 113, 137, 162, 177, 181, 182, 190, 223] 3 (k)
theorem gb_checked_103 {d : Nat} {Q : gx_R → Prop} {bc bs : Nat} {S : Nat → Nat → Int32} {o1 : Option Value} {a2 : Int32} {a3 : Int32} {o4 : Option Value} {a5 : Int32} {a6 : Int32} {o7 : Option Value} (k : gx_X gm_P (d + 1) 27 (104, [some (.ref 0), o1, some (.int a2), some (.int a3), o4, some (.int a5), some (.int a6), o7], [.int (0)], gm_h S, bc, bs) Q) : gx_X gm_P (d + 1) 27 (103, [some (.ref 0), o1, some (.int a2), some (.int a3), o4, some (.int a5), some (.int a6), o7], [], gm_h S, bc, bs) Q := gx_X.bs [0, 4, 12, 24, 54, 59, 90, 99, 103, 104, 113, 137, 162, 177, 181, 182, 190, 223] 2 (k)
theorem gb_checked_104 {d : Nat} {Q : gx_R → Prop} {bc bs : Nat} {S : Nat → Nat → Int32} {o1 : Option Value} {a2 : Int32} {a3 : Int32} {o4 : Option Value} {a5 : Int32} {a6 : Int32} {o7 : Option Value} {s0 : Int32} (k : gx_X gm_P (d + 1) 27 (113, [some (.ref 0), o1, some (.int a2), some (.int a3), some (.int s0), some (.int a5), some (.int a6), some (.int ((40) * a6))], [], gm_h S, bc, bs) Q) : gx_X gm_P (d + 1) 27 (104, [some (.ref 0), o1, some (.int a2), some (.int a3), o4, some (.int a5), some (.int a6), o7], [.int s0], gm_h S, bc, bs) Q := gx_X.bs [0, 4, 12, 24, 54, 59, 90, 99, 103, 104, 113, 137, 162, 177, 181, 182, 190, 223] 6 (k)
theorem gb_checked_113 {d : Nat} {Q : gx_R → Prop} {bc bs : Nat} {S : Nat → Nat → Int32} {o1 : Option Value} {a2 : Int32} {a3 : Int32} {a4 : Int32} {a5 : Int32} {a6 : Int32} {a7 : Int32} (k : ((¬ a7 < (((40) * a6) + (40))) → gx_X gm_P (d + 1) 27 (190, [some (.ref 0), o1, some (.int a2), some (.int a3), some (.int a4), some (.int a5), some (.int a6), some (.int a7)], [], gm_h S, bc, bs) Q) ∧ ((a7 < (((40) * a6) + (40))) → ((¬ a5 = 0) → gx_X gm_P (d + 1) 27 (177, [some (.ref 0), o1, some (.int a2), some (.int a3), some (.int a4), some (.int a5), some (.int a6), some (.int a7)], [], gm_h S, bc, bs) Q) ∧ ((a5 = 0) → gx_X gm_P d 22 (0, [some (.ref 0), some (.int a7)], [], gm_h S, 0, 0) (gx_k [some (.ref 0), o1, some (.int a2), some (.int a3), some (.int a4), some (.int a5), some (.int a6), some (.int a7)] [] 137 bc bs (fun S9 => gx_X gm_P (d + 1) 27 S9 Q) Q)))) : gx_X gm_P (d + 1) 27 (113, [some (.ref 0), o1, some (.int a2), some (.int a3), some (.int a4), some (.int a5), some (.int a6), some (.int a7)], [], gm_h S, bc, bs) Q := gx_X.bs [0, 4, 12, 24, 54, 59, 90, 99, 103, 104, 113, 137, 162, 177, 181, 182, 190, 223] 12 (And.intro (fun h2 => ((k).1 h2)) (fun h2 => And.intro (fun h1 => ((((k).2 h2)).1 h1)) (fun h1 => ⟨0, 0, ⟨Nat.zero_le _, Nat.zero_le _⟩, ((((k).2 h2)).2 h1)⟩)))
theorem gb_checked_137 {d : Nat} {Q : gx_R → Prop} {bc bs : Nat} {S : Nat → Nat → Int32} {o1 : Option Value} {a2 : Int32} {a3 : Int32} {a4 : Int32} {o5 : Option Value} {a6 : Int32} {a7 : Int32} {s0 : Int32} (k : ((s0 = 0) → gx_X gm_P (d + 1) 27 (181, [some (.ref 0), o1, some (.int a2), some (.int a3), some (.int a4), o5, some (.int a6), some (.int a7)], [], gm_h S, bc, bs) Q) ∧ ((¬ s0 = 0) → (vp_in a7 200) ∧ ((((S 7 (Int32.toNatClampNeg a7)) = (4)) → gx_X gm_P (d + 1) 27 (162, [some (.ref 0), o1, some (.int a2), some (.int a3), some (.int a4), o5, some (.int a6), some (.int a7)], [], gm_h S, bc, bs) Q) ∧ ((¬ (S 7 (Int32.toNatClampNeg a7)) = (4)) → (vp_in a7 200) ∧ (((¬ (S 7 (Int32.toNatClampNeg a7)) = (5)) → gx_X gm_P (d + 1) 27 (181, [some (.ref 0), o1, some (.int a2), some (.int a3), some (.int a4), o5, some (.int a6), some (.int a7)], [], gm_h S, bc, bs) Q) ∧ (((S 7 (Int32.toNatClampNeg a7)) = (5)) → gx_X gm_P (d + 1) 27 (162, [some (.ref 0), o1, some (.int a2), some (.int a3), some (.int a4), o5, some (.int a6), some (.int a7)], [], gm_h S, bc, bs) Q)))))) : gx_X gm_P (d + 1) 27 (137, [some (.ref 0), o1, some (.int a2), some (.int a3), some (.int a4), o5, some (.int a6), some (.int a7)], [.int s0], gm_h S, bc, bs) Q := gx_X.bs [0, 4, 12, 24, 54, 59, 90, 99, 103, 104, 113, 137, 162, 177, 181, 182, 190, 223] 14 (And.intro (fun h3 => ((k).1 h3)) (fun h3 => And.intro (((k).2 h3)).1 (And.intro (fun h2 => (((((k).2 h3)).2).1 h2)) (fun h2 => And.intro ((((((k).2 h3)).2).2 h2)).1 (And.intro (fun h1 => ((((((((k).2 h3)).2).2 h2)).2).1 h1)) (fun h1 => ((((((((k).2 h3)).2).2 h2)).2).2 h1)))))))
theorem gb_checked_162 {d : Nat} {Q : gx_R → Prop} {bc bs : Nat} {S : Nat → Nat → Int32} {o1 : Option Value} {a2 : Int32} {a3 : Int32} {a4 : Int32} {o5 : Option Value} {a6 : Int32} {a7 : Int32} (k : (vp_in a7 200) ∧ ((vp_in (S 8 (Int32.toNatClampNeg a7)) 200) ∧ ((((S 12 (Int32.toNatClampNeg (S 8 (Int32.toNatClampNeg a7)))) = 0) → gx_X gm_P (d + 1) 27 (181, [some (.ref 0), o1, some (.int a2), some (.int a3), some (.int a4), o5, some (.int a6), some (.int a7)], [], gm_h S, bc, bs) Q) ∧ ((¬ (S 12 (Int32.toNatClampNeg (S 8 (Int32.toNatClampNeg a7)))) = 0) → gx_X gm_P (d + 1) 27 (177, [some (.ref 0), o1, some (.int a2), some (.int a3), some (.int a4), o5, some (.int a6), some (.int a7)], [], gm_h S, bc, bs) Q)))) : gx_X gm_P (d + 1) 27 (162, [some (.ref 0), o1, some (.int a2), some (.int a3), some (.int a4), o5, some (.int a6), some (.int a7)], [], gm_h S, bc, bs) Q := gx_X.bs [0, 4, 12, 24, 54, 59, 90, 99, 103, 104, 113, 137, 162, 177, 181, 182, 190, 223] 9 (And.intro (k).1 (And.intro ((k).2).1 (And.intro (fun h1 => ((((k).2).2).1 h1)) (fun h1 => ((((k).2).2).2 h1)))))
theorem gb_checked_177 {d : Nat} {Q : gx_R → Prop} {bc bs : Nat} {S : Nat → Nat → Int32} {o1 : Option Value} {a2 : Int32} {a3 : Int32} {a4 : Int32} {o5 : Option Value} {a6 : Int32} {a7 : Int32} (k : gx_X gm_P (d + 1) 27 (182, [some (.ref 0), o1, some (.int a2), some (.int a3), some (.int a4), o5, some (.int a6), some (.int a7)], [.int (1)], gm_h S, bc, bs) Q) : gx_X gm_P (d + 1) 27 (177, [some (.ref 0), o1, some (.int a2), some (.int a3), some (.int a4), o5, some (.int a6), some (.int a7)], [], gm_h S, bc, bs) Q := gx_X.bs [0, 4, 12, 24, 54, 59, 90, 99, 103, 104, 113, 137, 162, 177, 181, 182, 190, 223] 3 (k)
theorem gb_checked_181 {d : Nat} {Q : gx_R → Prop} {bc bs : Nat} {S : Nat → Nat → Int32} {o1 : Option Value} {a2 : Int32} {a3 : Int32} {a4 : Int32} {o5 : Option Value} {a6 : Int32} {a7 : Int32} (k : gx_X gm_P (d + 1) 27 (182, [some (.ref 0), o1, some (.int a2), some (.int a3), some (.int a4), o5, some (.int a6), some (.int a7)], [.int (0)], gm_h S, bc, bs) Q) : gx_X gm_P (d + 1) 27 (181, [some (.ref 0), o1, some (.int a2), some (.int a3), some (.int a4), o5, some (.int a6), some (.int a7)], [], gm_h S, bc, bs) Q := gx_X.bs [0, 4, 12, 24, 54, 59, 90, 99, 103, 104, 113, 137, 162, 177, 181, 182, 190, 223] 2 (k)
theorem gb_checked_182 {d : Nat} {Q : gx_R → Prop} {bc bs : Nat} {S : Nat → Nat → Int32} {o1 : Option Value} {a2 : Int32} {a3 : Int32} {a4 : Int32} {o5 : Option Value} {a6 : Int32} {a7 : Int32} {s0 : Int32} (k : gx_X gm_P (d + 1) 27 (113, [some (.ref 0), o1, some (.int a2), some (.int a3), some (.int a4), some (.int s0), some (.int a6), some (.int (a7 + Int32.ofInt (1)))], [], gm_h S, bc, bs) Q) : gx_X gm_P (d + 1) 27 (182, [some (.ref 0), o1, some (.int a2), some (.int a3), some (.int a4), o5, some (.int a6), some (.int a7)], [.int s0], gm_h S, bc, bs) Q := gx_X.bs [0, 4, 12, 24, 54, 59, 90, 99, 103, 104, 113, 137, 162, 177, 181, 182, 190, 223] 4 (k)
theorem gb_checked_190 {d : Nat} {Q : gx_R → Prop} {bc bs : Nat} {S : Nat → Nat → Int32} {o1 : Option Value} {a2 : Int32} {a3 : Int32} {a4 : Int32} {a5 : Int32} {a6 : Int32} {o7 : Option Value} (k : gx_X gm_P (d + 1) 27 (24, [some (.ref 0), o1, some (.int a2), some (.int a3), some (.int a4), some (.int a5), some (.int (a6 + Int32.ofInt (1))), o7], [], gm_h S, bc, bs) Q) : gx_X gm_P (d + 1) 27 (190, [some (.ref 0), o1, some (.int a2), some (.int a3), some (.int a4), some (.int a5), some (.int a6), o7], [], gm_h S, bc, bs) Q := gx_X.bs [0, 4, 12, 24, 54, 59, 90, 99, 103, 104, 113, 137, 162, 177, 181, 182, 190, 223] 3 (k)
theorem gb_checked_223 {d : Nat} {Q : gx_R → Prop} {bc bs : Nat} {S : Nat → Nat → Int32} {o1 : Option Value} {o2 : Option Value} {o3 : Option Value} {o4 : Option Value} {o5 : Option Value} {o6 : Option Value} {o7 : Option Value} {s0 : Int32} (k : Q (.inl (some (.int s0)), gm_h S)) : gx_X gm_P (d + 1) 27 (223, [some (.ref 0), o1, o2, o3, o4, o5, o6, o7], [.int s0], gm_h S, bc, bs) Q := gx_X.bs [0, 4, 12, 24, 54, 59, 90, 99, 103, 104, 113, 137, 162, 177, 181, 182, 190, 223] 1 (k)
theorem gb_check_0 {d : Nat} {Q : gx_R → Prop} {bc bs : Nat} {S : Nat → Nat → Int32} {a1 : Int32} (k : gx_X gm_P d 2 (0, [some (.int a1)], [], gm_h S, 0, 0) (gx_k [some (.ref 0), some (.int a1)] [.ref 0] 5 bc bs (fun S9 => gx_X gm_P (d + 1) 28 S9 Q) Q)) : gx_X gm_P (d + 1) 28 (0, [some (.ref 0), some (.int a1)], [], gm_h S, bc, bs) Q := gx_X.bs [0, 5, 13, 32] 3 (⟨0, 0, ⟨Nat.zero_le _, Nat.zero_le _⟩, k⟩)
theorem gb_check_5 {d : Nat} {Q : gx_R → Prop} {bc bs : Nat} {S : Nat → Nat → Int32} {a1 : Int32} {s0 : Int32} (k : ((s0 = 0) → gx_X gm_P (d + 1) 28 (13, [some (.ref 0), some (.int a1)], [.int (1), .ref 0], gm_h S, bc, bs) Q) ∧ ((¬ s0 = 0) → gx_X gm_P (d + 1) 28 (13, [some (.ref 0), some (.int a1)], [.int (0), .ref 0], gm_h S, bc, bs) Q)) : gx_X gm_P (d + 1) 28 (5, [some (.ref 0), some (.int a1)], [.int s0, .ref 0], gm_h S, bc, bs) Q := gx_X.bs [0, 5, 13, 32] 4 (And.intro (fun h1 => ((k).1 h1)) (fun h1 => ((k).2 h1)))
theorem gb_check_13 {d : Nat} {Q : gx_R → Prop} {bc bs : Nat} {S : Nat → Nat → Int32} {a1 : Int32} {s0 : Int32} (k : ((¬ 0 < s0) → gx_X gm_P d 27 (0, [some (.ref 0), some (.int a1), none, none, none, none, none, none], [], gm_h (gm_u S 0 0 s0), 0, 0) (gx_k [some (.ref 0), some (.int a1)] [] 32 bc bs (fun S9 => gx_X gm_P (d + 1) 28 S9 Q) Q)) ∧ ((0 < s0) → gx_X gm_P (d + 1) 28 (32, [some (.ref 0), some (.int a1)], [.int (0)], gm_h (gm_u S 0 0 s0), bc, bs) Q)) : gx_X gm_P (d + 1) 28 (13, [some (.ref 0), some (.int a1)], [.int s0, .ref 0], gm_h S, bc, bs) Q := gx_X.bs [0, 5, 13, 32] 7 (And.intro (fun h1 => ⟨0, 0, ⟨Nat.zero_le _, Nat.zero_le _⟩, ((k).1 h1)⟩) (fun h1 => ((k).2 h1)))
theorem gb_check_32 {d : Nat} {Q : gx_R → Prop} {bc bs : Nat} {S : Nat → Nat → Int32} {o1 : Option Value} {s0 : Int32} (k : Q (.inl (some (.int s0)), gm_h S)) : gx_X gm_P (d + 1) 28 (32, [some (.ref 0), o1], [.int s0], gm_h S, bc, bs) Q := gx_X.bs [0, 5, 13, 32] 1 (k)
theorem gb_roundFrom_0 {d : Nat} {Q : gx_R → Prop} {bc bs : Nat} {S : Nat → Nat → Int32} {a1 : Int32} {a2 : Int32} {o3 : Option Value} {o4 : Option Value} (k : (vp_in (((13) * a1) + a2) 2600) ∧ (gx_X gm_P (d + 1) 29 (15, [some (.ref 0), some (.int a1), some (.int a2), some (.int a2), some (.int (S 20 (Int32.toNatClampNeg (((13) * a1) + a2))))], [], gm_h S, bc, bs) Q)) : gx_X gm_P (d + 1) 29 (0, [some (.ref 0), some (.int a1), some (.int a2), o3, o4], [], gm_h S, bc, bs) Q := gx_X.bs [0, 15, 53] 12 (And.intro (k).1 ((k).2))
theorem gb_roundFrom_15 {d : Nat} {Q : gx_R → Prop} {bc bs : Nat} {S : Nat → Nat → Int32} {a1 : Int32} {o2 : Option Value} {a3 : Int32} {a4 : Int32} (k : ((¬ a3 < a4) → ((¬ a4 = (-2)) → gx_X gm_P (d + 1) 29 (53, [some (.ref 0), some (.int a1), o2, some (.int a3), some (.int a4)], [.int a3], gm_h S, bc, bs) Q) ∧ ((a4 = (-2)) → gx_X gm_P (d + 1) 29 (53, [some (.ref 0), some (.int a1), o2, some (.int a3), some (.int a4)], [.int (-2)], gm_h S, bc, bs) Q)) ∧ ((a3 < a4) → (vp_in (((13) * a1) + a4) 2600) ∧ (gx_X gm_P (d + 1) 29 (15, [some (.ref 0), some (.int a1), o2, some (.int a4), some (.int (S 20 (Int32.toNatClampNeg (((13) * a1) + a4))))], [], gm_h S, bc, bs) Q))) : gx_X gm_P (d + 1) 29 (15, [some (.ref 0), some (.int a1), o2, some (.int a3), some (.int a4)], [], gm_h S, bc, bs) Q := gx_X.bs [0, 15, 53] 16 (And.intro (fun h2 => And.intro (fun h1 => ((((k).1 h2)).1 h1)) (fun h1 => ((((k).1 h2)).2 h1))) (fun h2 => And.intro (((k).2 h2)).1 ((((k).2 h2)).2)))
theorem gb_roundFrom_53 {d : Nat} {Q : gx_R → Prop} {bc bs : Nat} {S : Nat → Nat → Int32} {o1 : Option Value} {o2 : Option Value} {o3 : Option Value} {o4 : Option Value} {s0 : Int32} (k : Q (.inl (some (.int s0)), gm_h S)) : gx_X gm_P (d + 1) 29 (53, [some (.ref 0), o1, o2, o3, o4], [.int s0], gm_h S, bc, bs) Q := gx_X.bs [0, 15, 53] 1 (k)
theorem gb_sequenceFrom_0 {d : Nat} {Q : gx_R → Prop} {bc bs : Nat} {S : Nat → Nat → Int32} {a1 : Int32} {a2 : Int32} {o3 : Option Value} {o4 : Option Value} (k : (vp_in a1 200) ∧ (gx_X gm_P (d + 1) 30 (10, [some (.ref 0), some (.int a1), some (.int a2), some (.int a2), some (.int (S 8 (Int32.toNatClampNeg a1)))], [], gm_h S, bc, bs) Q)) : gx_X gm_P (d + 1) 30 (0, [some (.ref 0), some (.int a1), some (.int a2), o3, o4], [], gm_h S, bc, bs) Q := gx_X.bs [0, 10] 8 (And.intro (k).1 ((k).2))
theorem gb_sequenceFrom_10 {d : Nat} {Q : gx_R → Prop} {bc bs : Nat} {S : Nat → Nat → Int32} {o1 : Option Value} {o2 : Option Value} {a3 : Int32} {a4 : Int32} (k : ((a4 < 0) → Q (.inl (some (.int a3)), gm_h S)) ∧ ((¬ a4 < 0) → (vp_in (((13) * a4) + a3) 2600) ∧ (((¬ (S 20 (Int32.toNatClampNeg (((13) * a4) + a3))) < 0) → (vp_in a4 200) ∧ (gx_X gm_P (d + 1) 30 (10, [some (.ref 0), o1, o2, some (.int (S 20 (Int32.toNatClampNeg (((13) * a4) + a3)))), some (.int (S 10 (Int32.toNatClampNeg a4)))], [], gm_h S, bc, bs) Q)) ∧ (((S 20 (Int32.toNatClampNeg (((13) * a4) + a3))) < 0) → Q (.inl (some (.int (S 20 (Int32.toNatClampNeg (((13) * a4) + a3))))), gm_h S))))) : gx_X gm_P (d + 1) 30 (10, [some (.ref 0), o1, o2, some (.int a3), some (.int a4)], [], gm_h S, bc, bs) Q := gx_X.bs [0, 10] 20 (And.intro (fun h2 => ((k).1 h2)) (fun h2 => And.intro (((k).2 h2)).1 (And.intro (fun h1 => And.intro ((((((k).2 h2)).2).1 h1)).1 (((((((k).2 h2)).2).1 h1)).2)) (fun h1 => (((((k).2 h2)).2).2 h1)))))
theorem gb_choiceFrom_0 {d : Nat} {Q : gx_R → Prop} {bc bs : Nat} {S : Nat → Nat → Int32} {a1 : Int32} {a2 : Int32} {o3 : Option Value} {o4 : Option Value} (k : (vp_in a1 200) ∧ (gx_X gm_P (d + 1) 31 (7, [some (.ref 0), some (.int a1), some (.int a2), some (.int (S 8 (Int32.toNatClampNeg a1))), o4], [], gm_h S, bc, bs) Q)) : gx_X gm_P (d + 1) 31 (0, [some (.ref 0), some (.int a1), some (.int a2), o3, o4], [], gm_h S, bc, bs) Q := gx_X.bs [0, 7] 6 (And.intro (k).1 ((k).2))
theorem gb_choiceFrom_7 {d : Nat} {Q : gx_R → Prop} {bc bs : Nat} {S : Nat → Nat → Int32} {o1 : Option Value} {a2 : Int32} {a3 : Int32} {o4 : Option Value} (k : ((a3 < 0) → Q (.inl (some (.int (-1))), gm_h S)) ∧ ((¬ a3 < 0) → (vp_in (((13) * a3) + a2) 2600) ∧ ((((S 20 (Int32.toNatClampNeg (((13) * a3) + a2))) = (-1)) → (vp_in a3 200) ∧ (gx_X gm_P (d + 1) 31 (7, [some (.ref 0), o1, some (.int a2), some (.int (S 10 (Int32.toNatClampNeg a3))), some (.int (S 20 (Int32.toNatClampNeg (((13) * a3) + a2))))], [], gm_h S, bc, bs) Q)) ∧ ((¬ (S 20 (Int32.toNatClampNeg (((13) * a3) + a2))) = (-1)) → Q (.inl (some (.int (S 20 (Int32.toNatClampNeg (((13) * a3) + a2))))), gm_h S))))) : gx_X gm_P (d + 1) 31 (7, [some (.ref 0), o1, some (.int a2), some (.int a3), o4], [], gm_h S, bc, bs) Q := gx_X.bs [0, 7] 21 (And.intro (fun h2 => ((k).1 h2)) (fun h2 => And.intro (((k).2 h2)).1 (And.intro (fun h1 => And.intro ((((((k).2 h2)).2).1 h1)).1 (((((((k).2 h2)).2).1 h1)).2)) (fun h1 => (((((k).2 h2)).2).2 h1)))))
theorem gb_endNow_0 {d : Nat} {Q : gx_R → Prop} {bc bs : Nat} {S : Nat → Nat → Int32} {a1 : Int32} {a2 : Int32} {o3 : Option Value} {o4 : Option Value} (k : (vp_in a1 200) ∧ (((¬ (S 7 (Int32.toNatClampNeg a1)) = 0) → ((¬ (S 7 (Int32.toNatClampNeg a1)) = (2)) → ((¬ (S 7 (Int32.toNatClampNeg a1)) = (1)) → ((¬ (S 7 (Int32.toNatClampNeg a1)) = (9)) → ((¬ (S 7 (Int32.toNatClampNeg a1)) = (10)) → ((¬ (S 7 (Int32.toNatClampNeg a1)) = (4)) → (vp_in a1 200) ∧ ((vp_in (((13) * (S 8 (Int32.toNatClampNeg a1))) + a2) 2600) ∧ ((((S 20 (Int32.toNatClampNeg (((13) * (S 8 (Int32.toNatClampNeg a1))) + a2))) = (-2)) → gx_X gm_P (d + 1) 32 (179, [some (.ref 0), some (.int a1), some (.int a2), some (.int (S 7 (Int32.toNatClampNeg a1))), some (.int (S 20 (Int32.toNatClampNeg (((13) * (S 8 (Int32.toNatClampNeg a1))) + a2))))], [], gm_h S, bc, bs) Q) ∧ ((¬ (S 20 (Int32.toNatClampNeg (((13) * (S 8 (Int32.toNatClampNeg a1))) + a2))) = (-2)) → ((¬ (S 7 (Int32.toNatClampNeg a1)) = (3)) → ((¬ (S 7 (Int32.toNatClampNeg a1)) = (5)) → ((¬ (S 7 (Int32.toNatClampNeg a1)) = (6)) → (((S 20 (Int32.toNatClampNeg (((13) * (S 8 (Int32.toNatClampNeg a1))) + a2))) < 0) → gx_X gm_P (d + 1) 32 (237, [some (.ref 0), some (.int a1), some (.int a2), some (.int (S 7 (Int32.toNatClampNeg a1))), some (.int (S 20 (Int32.toNatClampNeg (((13) * (S 8 (Int32.toNatClampNeg a1))) + a2))))], [.int (0)], gm_h S, bc, bs) Q) ∧ ((¬ (S 20 (Int32.toNatClampNeg (((13) * (S 8 (Int32.toNatClampNeg a1))) + a2))) < 0) → gx_X gm_P (d + 1) 32 (237, [some (.ref 0), some (.int a1), some (.int a2), some (.int (S 7 (Int32.toNatClampNeg a1))), some (.int (S 20 (Int32.toNatClampNeg (((13) * (S 8 (Int32.toNatClampNeg a1))) + a2))))], [.int (1)], gm_h S, bc, bs) Q)) ∧ (((S 7 (Int32.toNatClampNeg a1)) = (6)) → ((¬ (S 20 (Int32.toNatClampNeg (((13) * (S 8 (Int32.toNatClampNeg a1))) + a2))) < 0) → gx_X gm_P (d + 1) 32 (226, [some (.ref 0), some (.int a1), some (.int a2), some (.int (S 7 (Int32.toNatClampNeg a1))), some (.int (S 20 (Int32.toNatClampNeg (((13) * (S 8 (Int32.toNatClampNeg a1))) + a2))))], [.int (S 20 (Int32.toNatClampNeg (((13) * (S 8 (Int32.toNatClampNeg a1))) + a2)))], gm_h S, bc, bs) Q) ∧ (((S 20 (Int32.toNatClampNeg (((13) * (S 8 (Int32.toNatClampNeg a1))) + a2))) < 0) → gx_X gm_P (d + 1) 32 (226, [some (.ref 0), some (.int a1), some (.int a2), some (.int (S 7 (Int32.toNatClampNeg a1))), some (.int (S 20 (Int32.toNatClampNeg (((13) * (S 8 (Int32.toNatClampNeg a1))) + a2))))], [.int a2], gm_h S, bc, bs) Q))) ∧ (((S 7 (Int32.toNatClampNeg a1)) = (5)) → ((¬ (S 20 (Int32.toNatClampNeg (((13) * (S 8 (Int32.toNatClampNeg a1))) + a2))) < 0) → (vp_in a1 200) ∧ (gx_X gm_P d 29 (0, [some (.ref 0), some (.int (S 8 (Int32.toNatClampNeg a1))), some (.int (S 20 (Int32.toNatClampNeg (((13) * (S 8 (Int32.toNatClampNeg a1))) + a2)))), none, none], [], gm_h S, 0, 0) (gx_k [some (.ref 0), some (.int a1), some (.int a2), some (.int (S 7 (Int32.toNatClampNeg a1))), some (.int (S 20 (Int32.toNatClampNeg (((13) * (S 8 (Int32.toNatClampNeg a1))) + a2))))] [] 208 bc bs (fun S9 => gx_X gm_P (d + 1) 32 S9 Q) Q))) ∧ (((S 20 (Int32.toNatClampNeg (((13) * (S 8 (Int32.toNatClampNeg a1))) + a2))) < 0) → gx_X gm_P (d + 1) 32 (208, [some (.ref 0), some (.int a1), some (.int a2), some (.int (S 7 (Int32.toNatClampNeg a1))), some (.int (S 20 (Int32.toNatClampNeg (((13) * (S 8 (Int32.toNatClampNeg a1))) + a2))))], [.int (-1)], gm_h S, bc, bs) Q))) ∧ (((S 7 (Int32.toNatClampNeg a1)) = (3)) → gx_X gm_P (d + 1) 32 (179, [some (.ref 0), some (.int a1), some (.int a2), some (.int (S 7 (Int32.toNatClampNeg a1))), some (.int (S 20 (Int32.toNatClampNeg (((13) * (S 8 (Int32.toNatClampNeg a1))) + a2))))], [], gm_h S, bc, bs) Q))))) ∧ (((S 7 (Int32.toNatClampNeg a1)) = (4)) → (vp_in a1 200) ∧ (gx_X gm_P d 29 (0, [some (.ref 0), some (.int (S 8 (Int32.toNatClampNeg a1))), some (.int a2), none, none], [], gm_h S, 0, 0) (gx_k [some (.ref 0), some (.int a1), some (.int a2), some (.int (S 7 (Int32.toNatClampNeg a1))), o4] [] 148 bc bs (fun S9 => gx_X gm_P (d + 1) 32 S9 Q) Q)))) ∧ (((S 7 (Int32.toNatClampNeg a1)) = (10)) → gx_X gm_P d 31 (0, [some (.ref 0), some (.int a1), some (.int a2), none, none], [], gm_h S, 0, 0) (gx_k [some (.ref 0), some (.int a1), some (.int a2), some (.int (S 7 (Int32.toNatClampNeg a1))), o4] [] 131 bc bs (fun S9 => gx_X gm_P (d + 1) 32 S9 Q) Q))) ∧ (((S 7 (Int32.toNatClampNeg a1)) = (9)) → gx_X gm_P d 30 (0, [some (.ref 0), some (.int a1), some (.int a2), none, none], [], gm_h S, 0, 0) (gx_k [some (.ref 0), some (.int a1), some (.int a2), some (.int (S 7 (Int32.toNatClampNeg a1))), o4] [] 118 bc bs (fun S9 => gx_X gm_P (d + 1) 32 S9 Q) Q))) ∧ (((S 7 (Int32.toNatClampNeg a1)) = (1)) → (vp_in a1 200) ∧ ((vp_in (S 8 (Int32.toNatClampNeg a1)) 4) ∧ ((((S 3 (Int32.toNatClampNeg (S 8 (Int32.toNatClampNeg a1)))) = 0) → gx_X gm_P (d + 1) 32 (105, [some (.ref 0), some (.int a1), some (.int a2), some (.int (S 7 (Int32.toNatClampNeg a1))), o4], [.int (-2)], gm_h S, bc, bs) Q) ∧ ((¬ (S 3 (Int32.toNatClampNeg (S 8 (Int32.toNatClampNeg a1)))) = 0) → (vp_in a1 200) ∧ ((vp_in (((520) * (S 8 (Int32.toNatClampNeg a1))) + a2) 2600) ∧ (gx_X gm_P (d + 1) 32 (105, [some (.ref 0), some (.int a1), some (.int a2), some (.int (S 7 (Int32.toNatClampNeg a1))), o4], [.int (S 20 (Int32.toNatClampNeg (((520) * (S 8 (Int32.toNatClampNeg a1))) + a2)))], gm_h S, bc, bs) Q))))))) ∧ (((S 7 (Int32.toNatClampNeg a1)) = (2)) → Q (.inl (some (.int a2)), gm_h S))) ∧ (((S 7 (Int32.toNatClampNeg a1)) = 0) → ((¬ a2 < (S 0 4)) → gx_X gm_P (d + 1) 32 (55, [some (.ref 0), some (.int a1), some (.int a2), some (.int (S 7 (Int32.toNatClampNeg a1))), o4], [], gm_h S, bc, bs) Q) ∧ ((a2 < (S 0 4)) → (vp_in a2 12) ∧ ((vp_in a1 200) ∧ ((((S 2 (Int32.toNatClampNeg a2)) < (S 8 (Int32.toNatClampNeg a1))) → gx_X gm_P (d + 1) 32 (55, [some (.ref 0), some (.int a1), some (.int a2), some (.int (S 7 (Int32.toNatClampNeg a1))), o4], [], gm_h S, bc, bs) Q) ∧ ((¬ (S 2 (Int32.toNatClampNeg a2)) < (S 8 (Int32.toNatClampNeg a1))) → (vp_in a2 12) ∧ ((vp_in a1 200) ∧ ((((S 9 (Int32.toNatClampNeg a1)) < (S 2 (Int32.toNatClampNeg a2))) → gx_X gm_P (d + 1) 32 (55, [some (.ref 0), some (.int a1), some (.int a2), some (.int (S 7 (Int32.toNatClampNeg a1))), o4], [], gm_h S, bc, bs) Q) ∧ ((¬ (S 9 (Int32.toNatClampNeg a1)) < (S 2 (Int32.toNatClampNeg a2))) → gx_X gm_P (d + 1) 32 (56, [some (.ref 0), some (.int a1), some (.int a2), some (.int (S 7 (Int32.toNatClampNeg a1))), o4], [.int (a2 + (1))], gm_h S, bc, bs) Q)))))))))) : gx_X gm_P (d + 1) 32 (0, [some (.ref 0), some (.int a1), some (.int a2), o3, o4], [], gm_h S, bc, bs) Q := gx_X.bs [0, 55, 56, 105, 118, 131, 148, 179, 208, 226, 237, 248, 256] 52 (And.intro (k).1 (And.intro (fun h17 => And.intro (fun h13 => And.intro (fun h12 => And.intro (fun h10 => And.intro (fun h9 => And.intro (fun h8 => And.intro ((((((((((((((k).2).1 h17)).1 h13)).1 h12)).1 h10)).1 h9)).1 h8)).1 (And.intro (((((((((((((((k).2).1 h17)).1 h13)).1 h12)).1 h10)).1 h9)).1 h8)).2).1 (And.intro (fun h7 => (((((((((((((((((k).2).1 h17)).1 h13)).1 h12)).1 h10)).1 h9)).1 h8)).2).2).1 h7)) (fun h7 => And.intro (fun h6 => And.intro (fun h5 => And.intro (fun h3 => And.intro (fun h1 => (((((((((((((((((((((((((k).2).1 h17)).1 h13)).1 h12)).1 h10)).1 h9)).1 h8)).2).2).2 h7)).1 h6)).1 h5)).1 h3)).1 h1)) (fun h1 => (((((((((((((((((((((((((k).2).1 h17)).1 h13)).1 h12)).1 h10)).1 h9)).1 h8)).2).2).2 h7)).1 h6)).1 h5)).1 h3)).2 h1))) (fun h3 => And.intro (fun h2 => (((((((((((((((((((((((((k).2).1 h17)).1 h13)).1 h12)).1 h10)).1 h9)).1 h8)).2).2).2 h7)).1 h6)).1 h5)).2 h3)).1 h2)) (fun h2 => (((((((((((((((((((((((((k).2).1 h17)).1 h13)).1 h12)).1 h10)).1 h9)).1 h8)).2).2).2 h7)).1 h6)).1 h5)).2 h3)).2 h2)))) (fun h5 => And.intro (fun h4 => And.intro ((((((((((((((((((((((((k).2).1 h17)).1 h13)).1 h12)).1 h10)).1 h9)).1 h8)).2).2).2 h7)).1 h6)).2 h5)).1 h4)).1 (⟨0, 0, ⟨Nat.zero_le _, Nat.zero_le _⟩, ((((((((((((((((((((((((k).2).1 h17)).1 h13)).1 h12)).1 h10)).1 h9)).1 h8)).2).2).2 h7)).1 h6)).2 h5)).1 h4)).2⟩)) (fun h4 => (((((((((((((((((((((((k).2).1 h17)).1 h13)).1 h12)).1 h10)).1 h9)).1 h8)).2).2).2 h7)).1 h6)).2 h5)).2 h4)))) (fun h6 => (((((((((((((((((((k).2).1 h17)).1 h13)).1 h12)).1 h10)).1 h9)).1 h8)).2).2).2 h7)).2 h6)))))) (fun h8 => And.intro ((((((((((((((k).2).1 h17)).1 h13)).1 h12)).1 h10)).1 h9)).2 h8)).1 (⟨0, 0, ⟨Nat.zero_le _, Nat.zero_le _⟩, ((((((((((((((k).2).1 h17)).1 h13)).1 h12)).1 h10)).1 h9)).2 h8)).2⟩))) (fun h9 => ⟨0, 0, ⟨Nat.zero_le _, Nat.zero_le _⟩, (((((((((((k).2).1 h17)).1 h13)).1 h12)).1 h10)).2 h9)⟩)) (fun h10 => ⟨0, 0, ⟨Nat.zero_le _, Nat.zero_le _⟩, (((((((((k).2).1 h17)).1 h13)).1 h12)).2 h10)⟩)) (fun h12 => And.intro ((((((((k).2).1 h17)).1 h13)).2 h12)).1 (And.intro (((((((((k).2).1 h17)).1 h13)).2 h12)).2).1 (And.intro (fun h11 => (((((((((((k).2).1 h17)).1 h13)).2 h12)).2).2).1 h11)) (fun h11 => And.intro ((((((((((((k).2).1 h17)).1 h13)).2 h12)).2).2).2 h11)).1 (And.intro (((((((((((((k).2).1 h17)).1 h13)).2 h12)).2).2).2 h11)).2).1 ((((((((((((((k).2).1 h17)).1 h13)).2 h12)).2).2).2 h11)).2).2))))))) (fun h13 => (((((k).2).1 h17)).2 h13))) (fun h17 => And.intro (fun h16 => (((((k).2).2 h17)).1 h16)) (fun h16 => And.intro ((((((k).2).2 h17)).2 h16)).1 (And.intro (((((((k).2).2 h17)).2 h16)).2).1 (And.intro (fun h15 => (((((((((k).2).2 h17)).2 h16)).2).2).1 h15)) (fun h15 => And.intro ((((((((((k).2).2 h17)).2 h16)).2).2).2 h15)).1 (And.intro (((((((((((k).2).2 h17)).2 h16)).2).2).2 h15)).2).1 (And.intro (fun h14 => (((((((((((((k).2).2 h17)).2 h16)).2).2).2 h15)).2).2).1 h14)) (fun h14 => (((((((((((((k).2).2 h17)).2 h16)).2).2).2 h15)).2).2).2 h14)))))))))))
theorem gb_endNow_55 {d : Nat} {Q : gx_R → Prop} {bc bs : Nat} {S : Nat → Nat → Int32} {o1 : Option Value} {o2 : Option Value} {o3 : Option Value} {o4 : Option Value} (k : gx_X gm_P (d + 1) 32 (56, [some (.ref 0), o1, o2, o3, o4], [.int (-1)], gm_h S, bc, bs) Q) : gx_X gm_P (d + 1) 32 (55, [some (.ref 0), o1, o2, o3, o4], [], gm_h S, bc, bs) Q := gx_X.bs [0, 55, 56, 105, 118, 131, 148, 179, 208, 226, 237, 248, 256] 2 (k)
theorem gb_endNow_56 {d : Nat} {Q : gx_R → Prop} {bc bs : Nat} {S : Nat → Nat → Int32} {o1 : Option Value} {o2 : Option Value} {o3 : Option Value} {o4 : Option Value} {s0 : Int32} (k : Q (.inl (some (.int s0)), gm_h S)) : gx_X gm_P (d + 1) 32 (56, [some (.ref 0), o1, o2, o3, o4], [.int s0], gm_h S, bc, bs) Q := gx_X.bs [0, 55, 56, 105, 118, 131, 148, 179, 208, 226, 237, 248, 256] 1 (k)
theorem gb_endNow_105 {d : Nat} {Q : gx_R → Prop} {bc bs : Nat} {S : Nat → Nat → Int32} {o1 : Option Value} {o2 : Option Value} {o3 : Option Value} {o4 : Option Value} {s0 : Int32} (k : Q (.inl (some (.int s0)), gm_h S)) : gx_X gm_P (d + 1) 32 (105, [some (.ref 0), o1, o2, o3, o4], [.int s0], gm_h S, bc, bs) Q := gx_X.bs [0, 55, 56, 105, 118, 131, 148, 179, 208, 226, 237, 248, 256] 1 (k)
theorem gb_endNow_118 {d : Nat} {Q : gx_R → Prop} {bc bs : Nat} {S : Nat → Nat → Int32} {o1 : Option Value} {o2 : Option Value} {o3 : Option Value} {o4 : Option Value} {s0 : Int32} (k : Q (.inl (some (.int s0)), gm_h S)) : gx_X gm_P (d + 1) 32 (118, [some (.ref 0), o1, o2, o3, o4], [.int s0], gm_h S, bc, bs) Q := gx_X.bs [0, 55, 56, 105, 118, 131, 148, 179, 208, 226, 237, 248, 256] 1 (k)
theorem gb_endNow_131 {d : Nat} {Q : gx_R → Prop} {bc bs : Nat} {S : Nat → Nat → Int32} {o1 : Option Value} {o2 : Option Value} {o3 : Option Value} {o4 : Option Value} {s0 : Int32} (k : Q (.inl (some (.int s0)), gm_h S)) : gx_X gm_P (d + 1) 32 (131, [some (.ref 0), o1, o2, o3, o4], [.int s0], gm_h S, bc, bs) Q := gx_X.bs [0, 55, 56, 105, 118, 131, 148, 179, 208, 226, 237, 248, 256] 1 (k)
theorem gb_endNow_148 {d : Nat} {Q : gx_R → Prop} {bc bs : Nat} {S : Nat → Nat → Int32} {o1 : Option Value} {o2 : Option Value} {o3 : Option Value} {o4 : Option Value} {s0 : Int32} (k : Q (.inl (some (.int s0)), gm_h S)) : gx_X gm_P (d + 1) 32 (148, [some (.ref 0), o1, o2, o3, o4], [.int s0], gm_h S, bc, bs) Q := gx_X.bs [0, 55, 56, 105, 118, 131, 148, 179, 208, 226, 237, 248, 256] 1 (k)
theorem gb_endNow_179 {d : Nat} {Q : gx_R → Prop} {bc bs : Nat} {S : Nat → Nat → Int32} {o1 : Option Value} {o2 : Option Value} {o3 : Option Value} {a4 : Int32} (k : Q (.inl (some (.int a4)), gm_h S)) : gx_X gm_P (d + 1) 32 (179, [some (.ref 0), o1, o2, o3, some (.int a4)], [], gm_h S, bc, bs) Q := gx_X.bs [0, 55, 56, 105, 118, 131, 148, 179, 208, 226, 237, 248, 256] 2 (k)
theorem gb_endNow_208 {d : Nat} {Q : gx_R → Prop} {bc bs : Nat} {S : Nat → Nat → Int32} {o1 : Option Value} {o2 : Option Value} {o3 : Option Value} {o4 : Option Value} {s0 : Int32} (k : Q (.inl (some (.int s0)), gm_h S)) : gx_X gm_P (d + 1) 32 (208, [some (.ref 0), o1, o2, o3, o4], [.int s0], gm_h S, bc, bs) Q := gx_X.bs [0, 55, 56, 105, 118, 131, 148, 179, 208, 226, 237, 248, 256] 1 (k)
theorem gb_endNow_226 {d : Nat} {Q : gx_R → Prop} {bc bs : Nat} {S : Nat → Nat → Int32} {o1 : Option Value} {o2 : Option Value} {o3 : Option Value} {o4 : Option Value} {s0 : Int32} (k : Q (.inl (some (.int s0)), gm_h S)) : gx_X gm_P (d + 1) 32 (226, [some (.ref 0), o1, o2, o3, o4], [.int s0], gm_h S, bc, bs) Q := gx_X.bs [0, 55, 56, 105, 118, 131, 148, 179, 208, 226, 237, 248, 256] 1 (k)
theorem gb_endNow_237 {d : Nat} {Q : gx_R → Prop} {bc bs : Nat} {S : Nat → Nat → Int32} {o1 : Option Value} {a2 : Int32} {a3 : Int32} {o4 : Option Value} {s0 : Int32} (k : ((¬ a3 = (7)) → gx_X gm_P (d + 1) 32 (248, [some (.ref 0), o1, some (.int a2), some (.int a3), o4], [.int (0), .int s0], gm_h S, bc, bs) Q) ∧ ((a3 = (7)) → gx_X gm_P (d + 1) 32 (248, [some (.ref 0), o1, some (.int a2), some (.int a3), o4], [.int (1), .int s0], gm_h S, bc, bs) Q)) : gx_X gm_P (d + 1) 32 (237, [some (.ref 0), o1, some (.int a2), some (.int a3), o4], [.int s0], gm_h S, bc, bs) Q := gx_X.bs [0, 55, 56, 105, 118, 131, 148, 179, 208, 226, 237, 248, 256] 6 (And.intro (fun h1 => ((k).1 h1)) (fun h1 => ((k).2 h1)))
theorem gb_endNow_248 {d : Nat} {Q : gx_R → Prop} {bc bs : Nat} {S : Nat → Nat → Int32} {o1 : Option Value} {a2 : Int32} {o3 : Option Value} {o4 : Option Value} {s0 : Int32} {s1 : Int32} (k : ((¬ s1 = s0) → gx_X gm_P (d + 1) 32 (256, [some (.ref 0), o1, some (.int a2), o3, o4], [.int (-1)], gm_h S, bc, bs) Q) ∧ ((s1 = s0) → gx_X gm_P (d + 1) 32 (256, [some (.ref 0), o1, some (.int a2), o3, o4], [.int a2], gm_h S, bc, bs) Q)) : gx_X gm_P (d + 1) 32 (248, [some (.ref 0), o1, some (.int a2), o3, o4], [.int s0, .int s1], gm_h S, bc, bs) Q := gx_X.bs [0, 55, 56, 105, 118, 131, 148, 179, 208, 226, 237, 248, 256] 4 (And.intro (fun h1 => ((k).1 h1)) (fun h1 => ((k).2 h1)))
theorem gb_endNow_256 {d : Nat} {Q : gx_R → Prop} {bc bs : Nat} {S : Nat → Nat → Int32} {o1 : Option Value} {o2 : Option Value} {o3 : Option Value} {o4 : Option Value} {s0 : Int32} (k : Q (.inl (some (.int s0)), gm_h S)) : gx_X gm_P (d + 1) 32 (256, [some (.ref 0), o1, o2, o3, o4], [.int s0], gm_h S, bc, bs) Q := gx_X.bs [0, 55, 56, 105, 118, 131, 148, 179, 208, 226, 237, 248, 256] 1 (k)
theorem gb_findEnds_0 {d : Nat} {Q : gx_R → Prop} {bc bs : Nat} {S : Nat → Nat → Int32} {o1 : Option Value} {o2 : Option Value} {o3 : Option Value} (k : gx_X gm_P (d + 1) 33 (2, [some (.ref 0), some (.int (0)), o2, o3], [], gm_h S, bc, bs) Q) : gx_X gm_P (d + 1) 33 (0, [some (.ref 0), o1, o2, o3], [], gm_h S, bc, bs) Q := gx_X.bs [0, 2, 25, 36, 44, 53, 88, 109, 114, 115] 3 (k)
theorem gb_findEnds_2 {d : Nat} {Q : gx_R → Prop} {bc bs : Nat} {S : Nat → Nat → Int32} {a1 : Int32} {o2 : Option Value} {o3 : Option Value} (k : ((¬ a1 < (2600)) → gx_X gm_P (d + 1) 33 (25, [some (.ref 0), some (.int (1)), o2, o3], [], gm_h S, bc, bs) Q) ∧ ((a1 < (2600)) → (vp_in a1 2600) ∧ (gx_X gm_P (d + 1) 33 (2, [some (.ref 0), some (.int (a1 + Int32.ofInt (1))), o2, o3], [], gm_h (gm_u S 20 (Int32.toNatClampNeg a1) (-2)), bc, bs) Q))) : gx_X gm_P (d + 1) 33 (2, [some (.ref 0), some (.int a1), o2, o3], [], gm_h S, bc, bs) Q := gx_X.bs [0, 2, 25, 36, 44, 53, 88, 109, 114, 115] 11 (And.intro (fun h1 => ((k).1 h1)) (fun h1 => And.intro (((k).2 h1)).1 ((((k).2 h1)).2)))
theorem gb_findEnds_25 {d : Nat} {Q : gx_R → Prop} {bc bs : Nat} {S : Nat → Nat → Int32} {a1 : Int32} {o2 : Option Value} {o3 : Option Value} (k : ((a1 = 0) → Q (.inl none, gm_h S)) ∧ ((¬ a1 = 0) → gx_X gm_P (d + 1) 33 (36, [some (.ref 0), some (.int (0)), some (.int (S 0 4)), o3], [], gm_h S, bc, bs) Q)) : gx_X gm_P (d + 1) 33 (25, [some (.ref 0), some (.int a1), o2, o3], [], gm_h S, bc, bs) Q := gx_X.bs [0, 2, 25, 36, 44, 53, 88, 109, 114, 115] 8 (And.intro (fun h1 => ((k).1 h1)) (fun h1 => ((k).2 h1)))
theorem gb_findEnds_36 {d : Nat} {Q : gx_R → Prop} {bc bs : Nat} {S : Nat → Nat → Int32} {a1 : Int32} {a2 : Int32} {o3 : Option Value} (k : ((a2 < 0) → gx_X gm_P (d + 1) 33 (25, [some (.ref 0), some (.int a1), some (.int a2), o3], [], gm_h S, bc, bs) Q) ∧ ((¬ a2 < 0) → gx_X gm_P (d + 1) 33 (44, [some (.ref 0), some (.int a1), some (.int a2), some (.int (159))], [], gm_h S, bc, bs) Q)) : gx_X gm_P (d + 1) 33 (36, [some (.ref 0), some (.int a1), some (.int a2), o3], [], gm_h S, bc, bs) Q := gx_X.bs [0, 2, 25, 36, 44, 53, 88, 109, 114, 115] 5 (And.intro (fun h1 => ((k).1 h1)) (fun h1 => ((k).2 h1)))
theorem gb_findEnds_44 {d : Nat} {Q : gx_R → Prop} {bc bs : Nat} {S : Nat → Nat → Int32} {a1 : Int32} {a2 : Int32} {a3 : Int32} (k : ((a3 < 0) → gx_X gm_P (d + 1) 33 (36, [some (.ref 0), some (.int a1), some (.int (a2 + Int32.ofInt (-1))), some (.int a3)], [], gm_h S, bc, bs) Q) ∧ ((¬ a3 < 0) → gx_X gm_P d 22 (0, [some (.ref 0), some (.int a3)], [], gm_h S, 0, 0) (gx_k [some (.ref 0), some (.int a1), some (.int a2), some (.int a3)] [] 53 bc bs (fun S9 => gx_X gm_P (d + 1) 33 S9 Q) Q))) : gx_X gm_P (d + 1) 33 (44, [some (.ref 0), some (.int a1), some (.int a2), some (.int a3)], [], gm_h S, bc, bs) Q := gx_X.bs [0, 2, 25, 36, 44, 53, 88, 109, 114, 115] 5 (And.intro (fun h1 => ((k).1 h1)) (fun h1 => ⟨0, 0, ⟨Nat.zero_le _, Nat.zero_le _⟩, ((k).2 h1)⟩))
theorem gb_findEnds_53 {d : Nat} {Q : gx_R → Prop} {bc bs : Nat} {S : Nat → Nat → Int32} {a1 : Int32} {a2 : Int32} {a3 : Int32} {s0 : Int32} (k : ((s0 = 0) → gx_X gm_P (d + 1) 33 (115, [some (.ref 0), some (.int a1), some (.int a2), some (.int a3)], [], gm_h S, bc, bs) Q) ∧ ((¬ s0 = 0) → (vp_in (((13) * a3) + a2) 2600) ∧ (((¬ (S 20 (Int32.toNatClampNeg (((13) * a3) + a2))) = (-2)) → gx_X gm_P (d + 1) 33 (115, [some (.ref 0), some (.int a1), some (.int a2), some (.int a3)], [], gm_h S, bc, bs) Q) ∧ (((S 20 (Int32.toNatClampNeg (((13) * a3) + a2))) = (-2)) → gx_X gm_P d 32 (0, [some (.ref 0), some (.int a3), some (.int a2), none, none], [], gm_h S, 0, 0) (gx_k [some (.ref 0), some (.int a1), some (.int a2), some (.int a3)] [.int (((13) * a3) + a2), .ref 20] 88 bc bs (fun S9 => gx_X gm_P (d + 1) 33 S9 Q) Q))))) : gx_X gm_P (d + 1) 33 (53, [some (.ref 0), some (.int a1), some (.int a2), some (.int a3)], [.int s0], gm_h S, bc, bs) Q := gx_X.bs [0, 2, 25, 36, 44, 53, 88, 109, 114, 115] 22 (And.intro (fun h2 => ((k).1 h2)) (fun h2 => And.intro (((k).2 h2)).1 (And.intro (fun h1 => (((((k).2 h2)).2).1 h1)) (fun h1 => ⟨0, 0, ⟨Nat.zero_le _, Nat.zero_le _⟩, (((((k).2 h2)).2).2 h1)⟩))))
theorem gb_findEnds_88 {d : Nat} {Q : gx_R → Prop} {bc bs : Nat} {S : Nat → Nat → Int32} {a1 : Int32} {a2 : Int32} {a3 : Int32} {s0 : Int32} {s1 : Int32} (k : (vp_in s1 2600) ∧ (((¬ a1 = 0) → gx_X gm_P (d + 1) 33 (109, [some (.ref 0), some (.int a1), some (.int a2), some (.int a3)], [], gm_h (gm_u S 20 (Int32.toNatClampNeg s1) s0), bc, bs) Q) ∧ ((a1 = 0) → (vp_in (((13) * a3) + a2) 2600) ∧ ((((upd (S 20) (Int32.toNatClampNeg s1) s0 (Int32.toNatClampNeg (((13) * a3) + a2))) = (-2)) → gx_X gm_P (d + 1) 33 (114, [some (.ref 0), some (.int a1), some (.int a2), some (.int a3)], [.int (0)], gm_h (gm_u S 20 (Int32.toNatClampNeg s1) s0), bc, bs) Q) ∧ ((¬ (upd (S 20) (Int32.toNatClampNeg s1) s0 (Int32.toNatClampNeg (((13) * a3) + a2))) = (-2)) → gx_X gm_P (d + 1) 33 (109, [some (.ref 0), some (.int a1), some (.int a2), some (.int a3)], [], gm_h (gm_u S 20 (Int32.toNatClampNeg s1) s0), bc, bs) Q))))) : gx_X gm_P (d + 1) 33 (88, [some (.ref 0), some (.int a1), some (.int a2), some (.int a3)], [.int s0, .int s1, .ref 20], gm_h S, bc, bs) Q := gx_X.bs [0, 2, 25, 36, 44, 53, 88, 109, 114, 115] 15 (And.intro (k).1 (And.intro (fun h2 => (((k).2).1 h2)) (fun h2 => And.intro ((((k).2).2 h2)).1 (And.intro (fun h1 => ((((((k).2).2 h2)).2).1 h1)) (fun h1 => ((((((k).2).2 h2)).2).2 h1))))))
theorem gb_findEnds_109 {d : Nat} {Q : gx_R → Prop} {bc bs : Nat} {S : Nat → Nat → Int32} {o1 : Option Value} {a2 : Int32} {a3 : Int32} (k : gx_X gm_P (d + 1) 33 (114, [some (.ref 0), o1, some (.int a2), some (.int a3)], [.int (1)], gm_h S, bc, bs) Q) : gx_X gm_P (d + 1) 33 (109, [some (.ref 0), o1, some (.int a2), some (.int a3)], [], gm_h S, bc, bs) Q := gx_X.bs [0, 2, 25, 36, 44, 53, 88, 109, 114, 115] 3 (k)
theorem gb_findEnds_114 {d : Nat} {Q : gx_R → Prop} {bc bs : Nat} {S : Nat → Nat → Int32} {o1 : Option Value} {a2 : Int32} {a3 : Int32} {s0 : Int32} (k : gx_X gm_P (d + 1) 33 (115, [some (.ref 0), some (.int s0), some (.int a2), some (.int a3)], [], gm_h S, bc, bs) Q) : gx_X gm_P (d + 1) 33 (114, [some (.ref 0), o1, some (.int a2), some (.int a3)], [.int s0], gm_h S, bc, bs) Q := gx_X.bs [0, 2, 25, 36, 44, 53, 88, 109, 114, 115] 2 (k)
theorem gb_findEnds_115 {d : Nat} {Q : gx_R → Prop} {bc bs : Nat} {S : Nat → Nat → Int32} {a1 : Int32} {a2 : Int32} {a3 : Int32} (k : gx_X gm_P (d + 1) 33 (44, [some (.ref 0), some (.int a1), some (.int a2), some (.int (a3 + Int32.ofInt (-1)))], [], gm_h S, bc, bs) Q) : gx_X gm_P (d + 1) 33 (115, [some (.ref 0), some (.int a1), some (.int a2), some (.int a3)], [], gm_h S, bc, bs) Q := gx_X.bs [0, 2, 25, 36, 44, 53, 88, 109, 114, 115] 3 (k)
theorem gb_lookAt_0 {d : Nat} {Q : gx_R → Prop} {bc bs : Nat} {S : Nat → Nat → Int32} {a1 : Int32} {a2 : Int32} (k : (vp_in (((13) * a1) + a2) 2600) ∧ (((¬ (S 21 (Int32.toNatClampNeg (((13) * a1) + a2))) = 0) → gx_X gm_P (d + 1) 34 (51, [some (.ref 0), some (.int a1), some (.int a2)], [], gm_h S, bc, bs) Q) ∧ (((S 21 (Int32.toNatClampNeg (((13) * a1) + a2))) = 0) → (vp_in (((13) * a1) + a2) 2600) ∧ ((vp_in (S 0 28) 2600) ∧ (gx_X gm_P (d + 1) 34 (51, [some (.ref 0), some (.int a1), some (.int a2)], [], gm_h (gm_u (gm_u (gm_u S 21 (Int32.toNatClampNeg (((13) * a1) + a2)) (vp_nar .boolean (1))) 22 (Int32.toNatClampNeg (S 0 28)) (((13) * a1) + a2)) 0 28 ((S 0 28) + (1))), bc, bs) Q))))) : gx_X gm_P (d + 1) 34 (0, [some (.ref 0), some (.int a1), some (.int a2)], [], gm_h S, bc, bs) Q := gx_X.bs [0, 51] 35 (And.intro (k).1 (And.intro (fun h1 => (((k).2).1 h1)) (fun h1 => And.intro ((((k).2).2 h1)).1 (And.intro (((((k).2).2 h1)).2).1 ((((((k).2).2 h1)).2).2)))))
theorem gb_lookAt_51 {d : Nat} {Q : gx_R → Prop} {bc bs : Nat} {S : Nat → Nat → Int32} {o1 : Option Value} {o2 : Option Value} (k : Q (.inl none, gm_h S)) : gx_X gm_P (d + 1) 34 (51, [some (.ref 0), o1, o2], [], gm_h S, bc, bs) Q := gx_X.bs [0, 51] 1 (k)
theorem gb_rule_0 {d : Nat} {Q : gx_R → Prop} {bc bs : Nat} {S : Nat → Nat → Int32} {a1 : Int32} {a2 : Int32} (k : (vp_in (((13) * a1) + a2) 52) ∧ (((¬ (S 23 (Int32.toNatClampNeg (((13) * a1) + a2))) = 0) → gx_X gm_P (d + 1) 35 (36, [some (.ref 0), some (.int a1), some (.int a2)], [], gm_h S, bc, bs) Q) ∧ (((S 23 (Int32.toNatClampNeg (((13) * a1) + a2))) = 0) → (vp_in (((13) * a1) + a2) 52) ∧ (gx_X gm_P (d + 1) 35 (36, [some (.ref 0), some (.int a1), some (.int a2)], [], gm_h (gm_u (gm_u S 23 (Int32.toNatClampNeg (((13) * a1) + a2)) (vp_nar .boolean (1))) 0 34 ((S 0 34) + (1))), bc, bs) Q)))) : gx_X gm_P (d + 1) 35 (0, [some (.ref 0), some (.int a1), some (.int a2)], [], gm_h S, bc, bs) Q := gx_X.bs [0, 36, 45] 25 (And.intro (k).1 (And.intro (fun h1 => (((k).2).1 h1)) (fun h1 => And.intro ((((k).2).2 h1)).1 (((((k).2).2 h1)).2))))
theorem gb_rule_36 {d : Nat} {Q : gx_R → Prop} {bc bs : Nat} {S : Nat → Nat → Int32} {a1 : Int32} {a2 : Int32} (k : gx_X gm_P d 34 (0, [some (.ref 0), some (.int ((40) * a1)), some (.int a2)], [], gm_h S, 0, 0) (gx_k [some (.ref 0), some (.int a1), some (.int a2)] [] 45 bc bs (fun S9 => gx_X gm_P (d + 1) 35 S9 Q) Q)) : gx_X gm_P (d + 1) 35 (36, [some (.ref 0), some (.int a1), some (.int a2)], [], gm_h S, bc, bs) Q := gx_X.bs [0, 36, 45] 6 (⟨0, 0, ⟨Nat.zero_le _, Nat.zero_le _⟩, k⟩)
theorem gb_rule_45 {d : Nat} {Q : gx_R → Prop} {bc bs : Nat} {S : Nat → Nat → Int32} {o1 : Option Value} {o2 : Option Value} (k : Q (.inl none, gm_h S)) : gx_X gm_P (d + 1) 35 (45, [some (.ref 0), o1, o2], [], gm_h S, bc, bs) Q := gx_X.bs [0, 36, 45] 1 (k)
theorem gb_lookWithin_0 {d : Nat} {Q : gx_R → Prop} {bc bs : Nat} {S : Nat → Nat → Int32} {a1 : Int32} {a2 : Int32} {o3 : Option Value} {o4 : Option Value} {o5 : Option Value} (k : (vp_in a1 200) ∧ (((¬ (S 7 (Int32.toNatClampNeg a1)) = 0) → ((¬ (S 7 (Int32.toNatClampNeg a1)) = (1)) → ((¬ (S 7 (Int32.toNatClampNeg a1)) = (10)) → ((¬ (S 7 (Int32.toNatClampNeg a1)) = (9)) → (((S 7 (Int32.toNatClampNeg a1)) = (4)) → gx_X gm_P (d + 1) 36 (213, [some (.ref 0), some (.int a1), some (.int a2), some (.int (S 7 (Int32.toNatClampNeg a1))), o4, o5], [], gm_h S, bc, bs) Q) ∧ ((¬ (S 7 (Int32.toNatClampNeg a1)) = (4)) → ((¬ (S 7 (Int32.toNatClampNeg a1)) = (5)) → (((S 7 (Int32.toNatClampNeg a1)) = (2)) → gx_X gm_P (d + 1) 36 (274, [some (.ref 0), some (.int a1), some (.int a2), some (.int (S 7 (Int32.toNatClampNeg a1))), o4, o5], [], gm_h S, bc, bs) Q) ∧ ((¬ (S 7 (Int32.toNatClampNeg a1)) = (2)) → (vp_in a1 200) ∧ (gx_X gm_P d 34 (0, [some (.ref 0), some (.int (S 8 (Int32.toNatClampNeg a1))), some (.int a2)], [], gm_h S, 0, 0) (gx_k [some (.ref 0), some (.int a1), some (.int a2), some (.int (S 7 (Int32.toNatClampNeg a1))), o4, o5] [] 274 bc bs (fun S9 => gx_X gm_P (d + 1) 36 S9 Q) Q)))) ∧ (((S 7 (Int32.toNatClampNeg a1)) = (5)) → gx_X gm_P (d + 1) 36 (213, [some (.ref 0), some (.int a1), some (.int a2), some (.int (S 7 (Int32.toNatClampNeg a1))), o4, o5], [], gm_h S, bc, bs) Q))) ∧ (((S 7 (Int32.toNatClampNeg a1)) = (9)) → (vp_in a1 200) ∧ (gx_X gm_P (d + 1) 36 (155, [some (.ref 0), some (.int a1), some (.int a2), some (.int (S 7 (Int32.toNatClampNeg a1))), some (.int a2), some (.int (S 8 (Int32.toNatClampNeg a1)))], [], gm_h S, bc, bs) Q))) ∧ (((S 7 (Int32.toNatClampNeg a1)) = (10)) → (vp_in a1 200) ∧ (gx_X gm_P (d + 1) 36 (84, [some (.ref 0), some (.int a1), some (.int a2), some (.int (S 7 (Int32.toNatClampNeg a1))), some (.int (1)), some (.int (S 8 (Int32.toNatClampNeg a1)))], [], gm_h S, bc, bs) Q))) ∧ (((S 7 (Int32.toNatClampNeg a1)) = (1)) → (vp_in a1 200) ∧ (gx_X gm_P d 35 (0, [some (.ref 0), some (.int (S 8 (Int32.toNatClampNeg a1))), some (.int a2)], [], gm_h S, 0, 0) (gx_k [some (.ref 0), some (.int a1), some (.int a2), some (.int (S 7 (Int32.toNatClampNeg a1))), o4, o5] [] 64 bc bs (fun S9 => gx_X gm_P (d + 1) 36 S9 Q) Q)))) ∧ (((S 7 (Int32.toNatClampNeg a1)) = 0) → (vp_in (((13) * a1) + a2) 2600) ∧ (((¬ (S 20 (Int32.toNatClampNeg (((13) * a1) + a2))) < 0) → gx_X gm_P (d + 1) 36 (38, [some (.ref 0), some (.int a1), some (.int a2), some (.int (S 7 (Int32.toNatClampNeg a1))), o4, o5], [.ref 0], gm_h S, bc, bs) Q) ∧ (((S 20 (Int32.toNatClampNeg (((13) * a1) + a2))) < 0) → ((¬ (S 0 33) < a2) → gx_X gm_P (d + 1) 36 (38, [some (.ref 0), some (.int a1), some (.int a2), some (.int (S 7 (Int32.toNatClampNeg a1))), o4, o5], [.ref 0], gm_h S, bc, bs) Q) ∧ (((S 0 33) < a2) → gx_X gm_P (d + 1) 36 (42, [some (.ref 0), some (.int a1), some (.int a2), some (.int (S 7 (Int32.toNatClampNeg a1))), o4, o5], [.int a2, .ref 0], gm_h S, bc, bs) Q)))))) : gx_X gm_P (d + 1) 36 (0, [some (.ref 0), some (.int a1), some (.int a2), o3, o4, o5], [], gm_h S, bc, bs) Q := gx_X.bs [0, 38, 42, 64, 84, 101, 121, 135, 155, 173, 200, 213, 216, 233, 274] 32 (And.intro (k).1 (And.intro (fun h9 => And.intro (fun h6 => And.intro (fun h5 => And.intro (fun h4 => And.intro (fun h3 => (((((((((((k).2).1 h9)).1 h6)).1 h5)).1 h4)).1 h3)) (fun h3 => And.intro (fun h2 => And.intro (fun h1 => (((((((((((((((k).2).1 h9)).1 h6)).1 h5)).1 h4)).2 h3)).1 h2)).1 h1)) (fun h1 => And.intro ((((((((((((((((k).2).1 h9)).1 h6)).1 h5)).1 h4)).2 h3)).1 h2)).2 h1)).1 (⟨0, 0, ⟨Nat.zero_le _, Nat.zero_le _⟩, ((((((((((((((((k).2).1 h9)).1 h6)).1 h5)).1 h4)).2 h3)).1 h2)).2 h1)).2⟩))) (fun h2 => (((((((((((((k).2).1 h9)).1 h6)).1 h5)).1 h4)).2 h3)).2 h2)))) (fun h4 => And.intro ((((((((((k).2).1 h9)).1 h6)).1 h5)).2 h4)).1 (((((((((((k).2).1 h9)).1 h6)).1 h5)).2 h4)).2))) (fun h5 => And.intro ((((((((k).2).1 h9)).1 h6)).2 h5)).1 (((((((((k).2).1 h9)).1 h6)).2 h5)).2))) (fun h6 => And.intro ((((((k).2).1 h9)).2 h6)).1 (⟨0, 0, ⟨Nat.zero_le _, Nat.zero_le _⟩, ((((((k).2).1 h9)).2 h6)).2⟩))) (fun h9 => And.intro ((((k).2).2 h9)).1 (And.intro (fun h8 => ((((((k).2).2 h9)).2).1 h8)) (fun h8 => And.intro (fun h7 => ((((((((k).2).2 h9)).2).2 h8)).1 h7)) (fun h7 => ((((((((k).2).2 h9)).2).2 h8)).2 h7)))))))
theorem gb_lookWithin_38 {d : Nat} {Q : gx_R → Prop} {bc bs : Nat} {S : Nat → Nat → Int32} {o1 : Option Value} {o2 : Option Value} {o3 : Option Value} {o4 : Option Value} {o5 : Option Value} (k : gx_X gm_P (d + 1) 36 (42, [some (.ref 0), o1, o2, o3, o4, o5], [.int (S 0 33), .ref 0], gm_h S, bc, bs) Q) : gx_X gm_P (d + 1) 36 (38, [some (.ref 0), o1, o2, o3, o4, o5], [.ref 0], gm_h S, bc, bs) Q := gx_X.bs [0, 38, 42, 64, 84, 101, 121, 135, 155, 173, 200, 213, 216, 233, 274] 3 (k)
theorem gb_lookWithin_42 {d : Nat} {Q : gx_R → Prop} {bc bs : Nat} {S : Nat → Nat → Int32} {o1 : Option Value} {o2 : Option Value} {o3 : Option Value} {o4 : Option Value} {o5 : Option Value} {s0 : Int32} (k : gx_X gm_P (d + 1) 36 (274, [some (.ref 0), o1, o2, o3, o4, o5], [], gm_h (gm_u S 0 33 s0), bc, bs) Q) : gx_X gm_P (d + 1) 36 (42, [some (.ref 0), o1, o2, o3, o4, o5], [.int s0, .ref 0], gm_h S, bc, bs) Q := gx_X.bs [0, 38, 42, 64, 84, 101, 121, 135, 155, 173, 200, 213, 216, 233, 274] 3 (k)
theorem gb_lookWithin_64 {d : Nat} {Q : gx_R → Prop} {bc bs : Nat} {S : Nat → Nat → Int32} {o1 : Option Value} {o2 : Option Value} {o3 : Option Value} {o4 : Option Value} {o5 : Option Value} (k : gx_X gm_P (d + 1) 36 (274, [some (.ref 0), o1, o2, o3, o4, o5], [], gm_h S, bc, bs) Q) : gx_X gm_P (d + 1) 36 (64, [some (.ref 0), o1, o2, o3, o4, o5], [], gm_h S, bc, bs) Q := gx_X.bs [0, 38, 42, 64, 84, 101, 121, 135, 155, 173, 200, 213, 216, 233, 274] 2 (k)
theorem gb_lookWithin_84 {d : Nat} {Q : gx_R → Prop} {bc bs : Nat} {S : Nat → Nat → Int32} {o1 : Option Value} {a2 : Int32} {o3 : Option Value} {a4 : Int32} {a5 : Int32} (k : ((a5 < 0) → gx_X gm_P (d + 1) 36 (135, [some (.ref 0), o1, some (.int a2), o3, some (.int a4), some (.int a5)], [], gm_h S, bc, bs) Q) ∧ ((¬ a5 < 0) → ((a4 = 0) → gx_X gm_P (d + 1) 36 (135, [some (.ref 0), o1, some (.int a2), o3, some (.int a4), some (.int a5)], [], gm_h S, bc, bs) Q) ∧ ((¬ a4 = 0) → gx_X gm_P d 34 (0, [some (.ref 0), some (.int a5), some (.int a2)], [], gm_h S, 0, 0) (gx_k [some (.ref 0), o1, some (.int a2), o3, some (.int a4), some (.int a5)] [] 101 bc bs (fun S9 => gx_X gm_P (d + 1) 36 S9 Q) Q)))) : gx_X gm_P (d + 1) 36 (84, [some (.ref 0), o1, some (.int a2), o3, some (.int a4), some (.int a5)], [], gm_h S, bc, bs) Q := gx_X.bs [0, 38, 42, 64, 84, 101, 121, 135, 155, 173, 200, 213, 216, 233, 274] 8 (And.intro (fun h2 => ((k).1 h2)) (fun h2 => And.intro (fun h1 => ((((k).2 h2)).1 h1)) (fun h1 => ⟨0, 0, ⟨Nat.zero_le _, Nat.zero_le _⟩, ((((k).2 h2)).2 h1)⟩)))
theorem gb_lookWithin_101 {d : Nat} {Q : gx_R → Prop} {bc bs : Nat} {S : Nat → Nat → Int32} {o1 : Option Value} {a2 : Int32} {o3 : Option Value} {o4 : Option Value} {a5 : Int32} (k : (vp_in (((13) * a5) + a2) 2600) ∧ (((¬ (S 20 (Int32.toNatClampNeg (((13) * a5) + a2))) < 0) → gx_X gm_P (d + 1) 36 (121, [some (.ref 0), o1, some (.int a2), o3, o4, some (.int a5)], [.int (0)], gm_h S, bc, bs) Q) ∧ (((S 20 (Int32.toNatClampNeg (((13) * a5) + a2))) < 0) → gx_X gm_P (d + 1) 36 (121, [some (.ref 0), o1, some (.int a2), o3, o4, some (.int a5)], [.int (1)], gm_h S, bc, bs) Q))) : gx_X gm_P (d + 1) 36 (101, [some (.ref 0), o1, some (.int a2), o3, o4, some (.int a5)], [], gm_h S, bc, bs) Q := gx_X.bs [0, 38, 42, 64, 84, 101, 121, 135, 155, 173, 200, 213, 216, 233, 274] 12 (And.intro (k).1 (And.intro (fun h1 => (((k).2).1 h1)) (fun h1 => (((k).2).2 h1))))
theorem gb_lookWithin_121 {d : Nat} {Q : gx_R → Prop} {bc bs : Nat} {S : Nat → Nat → Int32} {o1 : Option Value} {a2 : Int32} {o3 : Option Value} {o4 : Option Value} {a5 : Int32} {s0 : Int32} (k : (vp_in a5 200) ∧ (gx_X gm_P (d + 1) 36 (84, [some (.ref 0), o1, some (.int a2), o3, some (.int s0), some (.int (S 10 (Int32.toNatClampNeg a5)))], [], gm_h S, bc, bs) Q)) : gx_X gm_P (d + 1) 36 (121, [some (.ref 0), o1, some (.int a2), o3, o4, some (.int a5)], [.int s0], gm_h S, bc, bs) Q := gx_X.bs [0, 38, 42, 64, 84, 101, 121, 135, 155, 173, 200, 213, 216, 233, 274] 8 (And.intro (k).1 ((k).2))
theorem gb_lookWithin_135 {d : Nat} {Q : gx_R → Prop} {bc bs : Nat} {S : Nat → Nat → Int32} {o1 : Option Value} {o2 : Option Value} {o3 : Option Value} {o4 : Option Value} {o5 : Option Value} (k : gx_X gm_P (d + 1) 36 (274, [some (.ref 0), o1, o2, o3, o4, o5], [], gm_h S, bc, bs) Q) : gx_X gm_P (d + 1) 36 (135, [some (.ref 0), o1, o2, o3, o4, o5], [], gm_h S, bc, bs) Q := gx_X.bs [0, 38, 42, 64, 84, 101, 121, 135, 155, 173, 200, 213, 216, 233, 274] 2 (k)
theorem gb_lookWithin_155 {d : Nat} {Q : gx_R → Prop} {bc bs : Nat} {S : Nat → Nat → Int32} {o1 : Option Value} {o2 : Option Value} {o3 : Option Value} {a4 : Int32} {a5 : Int32} (k : ((a5 < 0) → gx_X gm_P (d + 1) 36 (200, [some (.ref 0), o1, o2, o3, some (.int a4), some (.int a5)], [], gm_h S, bc, bs) Q) ∧ ((¬ a5 < 0) → ((a4 < 0) → gx_X gm_P (d + 1) 36 (200, [some (.ref 0), o1, o2, o3, some (.int a4), some (.int a5)], [], gm_h S, bc, bs) Q) ∧ ((¬ a4 < 0) → gx_X gm_P d 34 (0, [some (.ref 0), some (.int a5), some (.int a4)], [], gm_h S, 0, 0) (gx_k [some (.ref 0), o1, o2, o3, some (.int a4), some (.int a5)] [] 173 bc bs (fun S9 => gx_X gm_P (d + 1) 36 S9 Q) Q)))) : gx_X gm_P (d + 1) 36 (155, [some (.ref 0), o1, o2, o3, some (.int a4), some (.int a5)], [], gm_h S, bc, bs) Q := gx_X.bs [0, 38, 42, 64, 84, 101, 121, 135, 155, 173, 200, 213, 216, 233, 274] 8 (And.intro (fun h2 => ((k).1 h2)) (fun h2 => And.intro (fun h1 => ((((k).2 h2)).1 h1)) (fun h1 => ⟨0, 0, ⟨Nat.zero_le _, Nat.zero_le _⟩, ((((k).2 h2)).2 h1)⟩)))
theorem gb_lookWithin_173 {d : Nat} {Q : gx_R → Prop} {bc bs : Nat} {S : Nat → Nat → Int32} {o1 : Option Value} {o2 : Option Value} {o3 : Option Value} {a4 : Int32} {a5 : Int32} (k : (vp_in (((13) * a5) + a4) 2600) ∧ ((vp_in a5 200) ∧ (gx_X gm_P (d + 1) 36 (155, [some (.ref 0), o1, o2, o3, some (.int (S 20 (Int32.toNatClampNeg (((13) * a5) + a4)))), some (.int (S 10 (Int32.toNatClampNeg a5)))], [], gm_h S, bc, bs) Q))) : gx_X gm_P (d + 1) 36 (173, [some (.ref 0), o1, o2, o3, some (.int a4), some (.int a5)], [], gm_h S, bc, bs) Q := gx_X.bs [0, 38, 42, 64, 84, 101, 121, 135, 155, 173, 200, 213, 216, 233, 274] 16 (And.intro (k).1 (And.intro ((k).2).1 (((k).2).2)))
theorem gb_lookWithin_200 {d : Nat} {Q : gx_R → Prop} {bc bs : Nat} {S : Nat → Nat → Int32} {o1 : Option Value} {o2 : Option Value} {o3 : Option Value} {o4 : Option Value} {o5 : Option Value} (k : gx_X gm_P (d + 1) 36 (274, [some (.ref 0), o1, o2, o3, o4, o5], [], gm_h S, bc, bs) Q) : gx_X gm_P (d + 1) 36 (200, [some (.ref 0), o1, o2, o3, o4, o5], [], gm_h S, bc, bs) Q := gx_X.bs [0, 38, 42, 64, 84, 101, 121, 135, 155, 173, 200, 213, 216, 233, 274] 2 (k)
theorem gb_lookWithin_213 {d : Nat} {Q : gx_R → Prop} {bc bs : Nat} {S : Nat → Nat → Int32} {a1 : Int32} {a2 : Int32} {o3 : Option Value} {o4 : Option Value} {o5 : Option Value} (k : gx_X gm_P (d + 1) 36 (216, [some (.ref 0), some (.int a1), some (.int a2), o3, some (.int a2), o5], [], gm_h S, bc, bs) Q) : gx_X gm_P (d + 1) 36 (213, [some (.ref 0), some (.int a1), some (.int a2), o3, o4, o5], [], gm_h S, bc, bs) Q := gx_X.bs [0, 38, 42, 64, 84, 101, 121, 135, 155, 173, 200, 213, 216, 233, 274] 3 (k)
theorem gb_lookWithin_216 {d : Nat} {Q : gx_R → Prop} {bc bs : Nat} {S : Nat → Nat → Int32} {a1 : Int32} {o2 : Option Value} {o3 : Option Value} {a4 : Int32} {o5 : Option Value} (k : ((a4 < 0) → gx_X gm_P (d + 1) 36 (274, [some (.ref 0), some (.int a1), o2, o3, some (.int a4), o5], [], gm_h S, bc, bs) Q) ∧ ((¬ a4 < 0) → (vp_in a1 200) ∧ (gx_X gm_P d 34 (0, [some (.ref 0), some (.int (S 8 (Int32.toNatClampNeg a1))), some (.int a4)], [], gm_h S, 0, 0) (gx_k [some (.ref 0), some (.int a1), o2, o3, some (.int a4), o5] [] 233 bc bs (fun S9 => gx_X gm_P (d + 1) 36 S9 Q) Q)))) : gx_X gm_P (d + 1) 36 (216, [some (.ref 0), some (.int a1), o2, o3, some (.int a4), o5], [], gm_h S, bc, bs) Q := gx_X.bs [0, 38, 42, 64, 84, 101, 121, 135, 155, 173, 200, 213, 216, 233, 274] 9 (And.intro (fun h1 => ((k).1 h1)) (fun h1 => And.intro (((k).2 h1)).1 (⟨0, 0, ⟨Nat.zero_le _, Nat.zero_le _⟩, (((k).2 h1)).2⟩)))
theorem gb_lookWithin_233 {d : Nat} {Q : gx_R → Prop} {bc bs : Nat} {S : Nat → Nat → Int32} {a1 : Int32} {o2 : Option Value} {o3 : Option Value} {a4 : Int32} {o5 : Option Value} (k : (vp_in a1 200) ∧ ((vp_in (((13) * (S 8 (Int32.toNatClampNeg a1))) + a4) 2600) ∧ (gx_X gm_P (d + 1) 36 (216, [some (.ref 0), some (.int a1), o2, o3, some (.int (S 20 (Int32.toNatClampNeg (((13) * (S 8 (Int32.toNatClampNeg a1))) + a4)))), o5], [], gm_h S, bc, bs) Q))) : gx_X gm_P (d + 1) 36 (233, [some (.ref 0), some (.int a1), o2, o3, some (.int a4), o5], [], gm_h S, bc, bs) Q := gx_X.bs [0, 38, 42, 64, 84, 101, 121, 135, 155, 173, 200, 213, 216, 233, 274] 14 (And.intro (k).1 (And.intro ((k).2).1 (((k).2).2)))
theorem gb_lookWithin_274 {d : Nat} {Q : gx_R → Prop} {bc bs : Nat} {S : Nat → Nat → Int32} {o1 : Option Value} {o2 : Option Value} {o3 : Option Value} {o4 : Option Value} {o5 : Option Value} (k : Q (.inl none, gm_h S)) : gx_X gm_P (d + 1) 36 (274, [some (.ref 0), o1, o2, o3, o4, o5], [], gm_h S, bc, bs) Q := gx_X.bs [0, 38, 42, 64, 84, 101, 121, 135, 155, 173, 200, 213, 216, 233, 274] 1 (k)
theorem gb_lookAll_0 {d : Nat} {Q : gx_R → Prop} {bc bs : Nat} {S : Nat → Nat → Int32} {a1 : Int32} {a2 : Int32} {o3 : Option Value} (k : gx_X gm_P (d + 1) 37 (2, [some (.ref 0), some (.int a1), some (.int a2), some (.int (0))], [], gm_h S, bc, bs) Q) : gx_X gm_P (d + 1) 37 (0, [some (.ref 0), some (.int a1), some (.int a2), o3], [], gm_h S, bc, bs) Q := gx_X.bs [0, 2, 24, 64, 103] 3 (k)
theorem gb_lookAll_2 {d : Nat} {Q : gx_R → Prop} {bc bs : Nat} {S : Nat → Nat → Int32} {a1 : Int32} {a2 : Int32} {a3 : Int32} (k : ((¬ a3 < (2600)) → gx_X gm_P (d + 1) 37 (24, [some (.ref 0), some (.int a1), some (.int a2), some (.int (0))], [], gm_h S, bc, bs) Q) ∧ ((a3 < (2600)) → (vp_in a3 2600) ∧ (gx_X gm_P (d + 1) 37 (2, [some (.ref 0), some (.int a1), some (.int a2), some (.int (a3 + Int32.ofInt (1)))], [], gm_h (gm_u S 21 (Int32.toNatClampNeg a3) (vp_nar .boolean (0))), bc, bs) Q))) : gx_X gm_P (d + 1) 37 (2, [some (.ref 0), some (.int a1), some (.int a2), some (.int a3)], [], gm_h S, bc, bs) Q := gx_X.bs [0, 2, 24, 64, 103] 11 (And.intro (fun h1 => ((k).1 h1)) (fun h1 => And.intro (((k).2 h1)).1 ((((k).2 h1)).2)))
theorem gb_lookAll_24 {d : Nat} {Q : gx_R → Prop} {bc bs : Nat} {S : Nat → Nat → Int32} {a1 : Int32} {a2 : Int32} {a3 : Int32} (k : ((¬ a3 < (52)) → gx_X gm_P d 35 (0, [some (.ref 0), some (.int a1), some (.int a2)], [], gm_h (gm_u (gm_u (gm_u S 0 33 (-1)) 0 34 (0)) 0 28 (0)), 0, 0) (gx_k [some (.ref 0), some (.int a1), some (.int a2), some (.int a3)] [] 64 bc bs (fun S9 => gx_X gm_P (d + 1) 37 S9 Q) Q)) ∧ ((a3 < (52)) → (vp_in a3 52) ∧ (gx_X gm_P (d + 1) 37 (24, [some (.ref 0), some (.int a1), some (.int a2), some (.int (a3 + Int32.ofInt (1)))], [], gm_h (gm_u S 23 (Int32.toNatClampNeg a3) (vp_nar .boolean (0))), bc, bs) Q))) : gx_X gm_P (d + 1) 37 (24, [some (.ref 0), some (.int a1), some (.int a2), some (.int a3)], [], gm_h S, bc, bs) Q := gx_X.bs [0, 2, 24, 64, 103] 16 (And.intro (fun h1 => ⟨0, 0, ⟨Nat.zero_le _, Nat.zero_le _⟩, ((k).1 h1)⟩) (fun h1 => And.intro (((k).2 h1)).1 ((((k).2 h1)).2)))
theorem gb_lookAll_64 {d : Nat} {Q : gx_R → Prop} {bc bs : Nat} {S : Nat → Nat → Int32} {o1 : Option Value} {o2 : Option Value} {o3 : Option Value} (k : ((¬ 0 < (S 0 28)) → Q (.inl none, gm_h S)) ∧ ((0 < (S 0 28)) → (vp_in ((S 0 28) - (1)) 2600) ∧ (gx_X gm_P d 36 (0, [some (.ref 0), some (.int ((S 22 (Int32.toNatClampNeg ((S 0 28) - (1)))) / (13))), some (.int ((S 22 (Int32.toNatClampNeg ((S 0 28) - (1)))) - (S 22 (Int32.toNatClampNeg ((S 0 28) - (1)))) / (13) * (13))), none, none, none], [], gm_h (gm_u S 0 28 ((S 0 28) - (1))), 0, 0) (gx_k [some (.ref 0), o1, o2, some (.int (S 22 (Int32.toNatClampNeg ((S 0 28) - (1)))))] [] 103 bc bs (fun S9 => gx_X gm_P (d + 1) 37 S9 Q) Q)))) : gx_X gm_P (d + 1) 37 (64, [some (.ref 0), o1, o2, o3], [], gm_h S, bc, bs) Q := gx_X.bs [0, 2, 24, 64, 103] 23 (And.intro (fun h1 => ((k).1 h1)) (fun h1 => And.intro (((k).2 h1)).1 (And.intro (by first | decide | (unfold vp_in; decide)) (And.intro (by first | decide | (unfold vp_in; decide)) (⟨0, 0, ⟨Nat.zero_le _, Nat.zero_le _⟩, (((k).2 h1)).2⟩)))))
theorem gb_lookAll_103 {d : Nat} {Q : gx_R → Prop} {bc bs : Nat} {S : Nat → Nat → Int32} {o1 : Option Value} {o2 : Option Value} {o3 : Option Value} (k : gx_X gm_P (d + 1) 37 (64, [some (.ref 0), o1, o2, o3], [], gm_h S, bc, bs) Q) : gx_X gm_P (d + 1) 37 (103, [some (.ref 0), o1, o2, o3], [], gm_h S, bc, bs) Q := gx_X.bs [0, 2, 24, 64, 103] 2 (k)
theorem gb_keep_0 {d : Nat} {Q : gx_R → Prop} {bc bs : Nat} {S : Nat → Nat → Int32} {a1 : Int32} {a2 : Int32} (k : ((¬ (S 0 30) < (40)) → gx_X gm_P (d + 1) 38 (39, [some (.ref 0), some (.int a1), some (.int a2)], [], gm_h S, bc, bs) Q) ∧ (((S 0 30) < (40)) → (vp_in (S 0 30) 40) ∧ ((vp_in (S 0 30) 40) ∧ (gx_X gm_P (d + 1) 38 (39, [some (.ref 0), some (.int a1), some (.int a2)], [], gm_h (gm_u (gm_u (gm_u S 24 (Int32.toNatClampNeg (S 0 30)) a1) 25 (Int32.toNatClampNeg (S 0 30)) a2) 0 30 ((S 0 30) + (1))), bc, bs) Q)))) : gx_X gm_P (d + 1) 38 (0, [some (.ref 0), some (.int a1), some (.int a2)], [], gm_h S, bc, bs) Q := gx_X.bs [0, 39] 23 (And.intro (fun h1 => ((k).1 h1)) (fun h1 => And.intro (((k).2 h1)).1 (And.intro ((((k).2 h1)).2).1 (((((k).2 h1)).2).2))))
theorem gb_keep_39 {d : Nat} {Q : gx_R → Prop} {bc bs : Nat} {S : Nat → Nat → Int32} {o1 : Option Value} {o2 : Option Value} (k : Q (.inl none, gm_h S)) : gx_X gm_P (d + 1) 38 (39, [some (.ref 0), o1, o2], [], gm_h S, bc, bs) Q := gx_X.bs [0, 39] 1 (k)
theorem gb_turn_0 {d : Nat} {Q : gx_R → Prop} {bc bs : Nat} {S : Nat → Nat → Int32} {a1 : Int32} {o2 : Option Value} {o3 : Option Value} {o4 : Option Value} (k : gx_X gm_P (d + 1) 39 (9, [some (.ref 0), some (.int a1), some (.int a1), some (.int ((S 0 28) - (1))), o4], [], gm_h S, bc, bs) Q) : gx_X gm_P (d + 1) 39 (0, [some (.ref 0), some (.int a1), o2, o3, o4], [], gm_h S, bc, bs) Q := gx_X.bs [0, 9] 8 (k)
theorem gb_turn_9 {d : Nat} {Q : gx_R → Prop} {bc bs : Nat} {S : Nat → Nat → Int32} {o1 : Option Value} {a2 : Int32} {a3 : Int32} {o4 : Option Value} (k : ((¬ a2 < a3) → Q (.inl none, gm_h S)) ∧ ((a2 < a3) → (vp_in a2 2600) ∧ ((vp_in a3 2600) ∧ ((vp_in a2 2600) ∧ ((vp_in a3 2600) ∧ (gx_X gm_P (d + 1) 39 (9, [some (.ref 0), o1, some (.int (a2 + Int32.ofInt (1))), some (.int (a3 + Int32.ofInt (-1))), some (.int (S 22 (Int32.toNatClampNeg a2)))], [], gm_h (gm_u (gm_u S 22 (Int32.toNatClampNeg a2) (S 22 (Int32.toNatClampNeg a3))) 22 (Int32.toNatClampNeg a3) (S 22 (Int32.toNatClampNeg a2))), bc, bs) Q)))))) : gx_X gm_P (d + 1) 39 (9, [some (.ref 0), o1, some (.int a2), some (.int a3), o4], [], gm_h S, bc, bs) Q := gx_X.bs [0, 9] 25 (And.intro (fun h1 => ((k).1 h1)) (fun h1 => And.intro (((k).2 h1)).1 (And.intro ((((k).2 h1)).2).1 (And.intro (((((k).2 h1)).2).2).1 (And.intro ((((((k).2 h1)).2).2).2).1 (((((((k).2 h1)).2).2).2).2))))))
theorem gb_push_0 {d : Nat} {Q : gx_R → Prop} {bc bs : Nat} {S : Nat → Nat → Int32} {a1 : Int32} {a2 : Int32} (k : (vp_in (S 0 28) 2600) ∧ (Q (.inl none, gm_h (gm_u (gm_u S 22 (Int32.toNatClampNeg (S 0 28)) (((13) * a1) + a2)) 0 28 ((S 0 28) + (1)))))) : gx_X gm_P (d + 1) 40 (0, [some (.ref 0), some (.int a1), some (.int a2)], [], gm_h S, bc, bs) Q := gx_X.bs [0] 17 (And.intro (k).1 ((k).2))
theorem gb_captureWithin_0 {d : Nat} {Q : gx_R → Prop} {bc bs : Nat} {S : Nat → Nat → Int32} {a1 : Int32} {a2 : Int32} {o3 : Option Value} {o4 : Option Value} {o5 : Option Value} {o6 : Option Value} (k : (vp_in a1 200) ∧ (((¬ (S 7 (Int32.toNatClampNeg a1)) = (2)) → ((¬ (S 7 (Int32.toNatClampNeg a1)) = (3)) → ((¬ (S 7 (Int32.toNatClampNeg a1)) = (1)) → ((¬ (S 7 (Int32.toNatClampNeg a1)) = (10)) → ((¬ (S 7 (Int32.toNatClampNeg a1)) = (9)) → (((S 7 (Int32.toNatClampNeg a1)) = (4)) → gx_X gm_P (d + 1) 41 (217, [some (.ref 0), some (.int a1), some (.int a2), some (.int (S 7 (Int32.toNatClampNeg a1))), some (.int (S 0 28)), o5, o6], [], gm_h S, bc, bs) Q) ∧ ((¬ (S 7 (Int32.toNatClampNeg a1)) = (4)) → (((S 7 (Int32.toNatClampNeg a1)) = (5)) → gx_X gm_P (d + 1) 41 (217, [some (.ref 0), some (.int a1), some (.int a2), some (.int (S 7 (Int32.toNatClampNeg a1))), some (.int (S 0 28)), o5, o6], [], gm_h S, bc, bs) Q) ∧ ((¬ (S 7 (Int32.toNatClampNeg a1)) = (5)) → ((¬ (S 7 (Int32.toNatClampNeg a1)) = (6)) → gx_X gm_P (d + 1) 41 (295, [some (.ref 0), some (.int a1), some (.int a2), some (.int (S 7 (Int32.toNatClampNeg a1))), some (.int (S 0 28)), o5, o6], [], gm_h S, bc, bs) Q) ∧ (((S 7 (Int32.toNatClampNeg a1)) = (6)) → gx_X gm_P (d + 1) 41 (217, [some (.ref 0), some (.int a1), some (.int a2), some (.int (S 7 (Int32.toNatClampNeg a1))), some (.int (S 0 28)), o5, o6], [], gm_h S, bc, bs) Q)))) ∧ (((S 7 (Int32.toNatClampNeg a1)) = (9)) → (vp_in a1 200) ∧ (gx_X gm_P (d + 1) 41 (152, [some (.ref 0), some (.int a1), some (.int a2), some (.int (S 7 (Int32.toNatClampNeg a1))), some (.int (S 0 28)), some (.int a2), some (.int (S 8 (Int32.toNatClampNeg a1)))], [], gm_h S, bc, bs) Q))) ∧ (((S 7 (Int32.toNatClampNeg a1)) = (10)) → (vp_in a1 200) ∧ (gx_X gm_P (d + 1) 41 (98, [some (.ref 0), some (.int a1), some (.int a2), some (.int (S 7 (Int32.toNatClampNeg a1))), some (.int (S 0 28)), some (.int (S 8 (Int32.toNatClampNeg a1))), o6], [], gm_h S, bc, bs) Q))) ∧ (((S 7 (Int32.toNatClampNeg a1)) = (1)) → (vp_in a1 200) ∧ (gx_X gm_P d 40 (0, [some (.ref 0), some (.int ((40) * (S 8 (Int32.toNatClampNeg a1)))), some (.int a2)], [], gm_h S, 0, 0) (gx_k [some (.ref 0), some (.int a1), some (.int a2), some (.int (S 7 (Int32.toNatClampNeg a1))), some (.int (S 0 28)), o5, o6] [] 81 bc bs (fun S9 => gx_X gm_P (d + 1) 41 S9 Q) Q)))) ∧ (((S 7 (Int32.toNatClampNeg a1)) = (3)) → (vp_in (((13) * a1) + a2) 2600) ∧ (gx_X gm_P d 38 (0, [some (.ref 0), some (.int a2), some (.int (S 20 (Int32.toNatClampNeg (((13) * a1) + a2))))], [], gm_h S, 0, 0) (gx_k [some (.ref 0), some (.int a1), some (.int a2), some (.int (S 7 (Int32.toNatClampNeg a1))), some (.int (S 0 28)), o5, o6] [] 48 bc bs (fun S9 => gx_X gm_P (d + 1) 41 S9 Q) Q)))) ∧ (((S 7 (Int32.toNatClampNeg a1)) = (2)) → gx_X gm_P d 38 (0, [some (.ref 0), some (.int a2), some (.int a2)], [], gm_h S, 0, 0) (gx_k [some (.ref 0), some (.int a1), some (.int a2), some (.int (S 7 (Int32.toNatClampNeg a1))), some (.int (S 0 28)), o5, o6] [] 24 bc bs (fun S9 => gx_X gm_P (d + 1) 41 S9 Q) Q)))) : gx_X gm_P (d + 1) 41 (0, [some (.ref 0), some (.int a1), some (.int a2), o3, o4, o5, o6], [], gm_h S, bc, bs) Q := gx_X.bs [0, 24, 48, 59, 81, 98, 132, 152, 165, 198, 217, 220, 255, 267, 289, 295] 33 (And.intro (k).1 (And.intro (fun h8 => And.intro (fun h7 => And.intro (fun h6 => And.intro (fun h5 => And.intro (fun h4 => And.intro (fun h3 => (((((((((((((k).2).1 h8)).1 h7)).1 h6)).1 h5)).1 h4)).1 h3)) (fun h3 => And.intro (fun h2 => (((((((((((((((k).2).1 h8)).1 h7)).1 h6)).1 h5)).1 h4)).2 h3)).1 h2)) (fun h2 => And.intro (fun h1 => (((((((((((((((((k).2).1 h8)).1 h7)).1 h6)).1 h5)).1 h4)).2 h3)).2 h2)).1 h1)) (fun h1 => (((((((((((((((((k).2).1 h8)).1 h7)).1 h6)).1 h5)).1 h4)).2 h3)).2 h2)).2 h1))))) (fun h4 => And.intro ((((((((((((k).2).1 h8)).1 h7)).1 h6)).1 h5)).2 h4)).1 (((((((((((((k).2).1 h8)).1 h7)).1 h6)).1 h5)).2 h4)).2))) (fun h5 => And.intro ((((((((((k).2).1 h8)).1 h7)).1 h6)).2 h5)).1 (((((((((((k).2).1 h8)).1 h7)).1 h6)).2 h5)).2))) (fun h6 => And.intro ((((((((k).2).1 h8)).1 h7)).2 h6)).1 (⟨0, 0, ⟨Nat.zero_le _, Nat.zero_le _⟩, ((((((((k).2).1 h8)).1 h7)).2 h6)).2⟩))) (fun h7 => And.intro ((((((k).2).1 h8)).2 h7)).1 (⟨0, 0, ⟨Nat.zero_le _, Nat.zero_le _⟩, ((((((k).2).1 h8)).2 h7)).2⟩))) (fun h8 => ⟨0, 0, ⟨Nat.zero_le _, Nat.zero_le _⟩, (((k).2).2 h8)⟩)))
theorem gb_captureWithin_24 {d : Nat} {Q : gx_R → Prop} {bc bs : Nat} {S : Nat → Nat → Int32} {o1 : Option Value} {o2 : Option Value} {o3 : Option Value} {o4 : Option Value} {o5 : Option Value} {o6 : Option Value} (k : gx_X gm_P (d + 1) 41 (295, [some (.ref 0), o1, o2, o3, o4, o5, o6], [], gm_h S, bc, bs) Q) : gx_X gm_P (d + 1) 41 (24, [some (.ref 0), o1, o2, o3, o4, o5, o6], [], gm_h S, bc, bs) Q := gx_X.bs [0, 24, 48, 59, 81, 98, 132, 152, 165, 198, 217, 220, 255, 267, 289, 295] 2 (k)
theorem gb_captureWithin_48 {d : Nat} {Q : gx_R → Prop} {bc bs : Nat} {S : Nat → Nat → Int32} {a1 : Int32} {a2 : Int32} {o3 : Option Value} {o4 : Option Value} {o5 : Option Value} {o6 : Option Value} (k : (vp_in a1 200) ∧ (gx_X gm_P d 40 (0, [some (.ref 0), some (.int (S 8 (Int32.toNatClampNeg a1))), some (.int a2)], [], gm_h S, 0, 0) (gx_k [some (.ref 0), some (.int a1), some (.int a2), o3, o4, o5, o6] [] 59 bc bs (fun S9 => gx_X gm_P (d + 1) 41 S9 Q) Q))) : gx_X gm_P (d + 1) 41 (48, [some (.ref 0), some (.int a1), some (.int a2), o3, o4, o5, o6], [], gm_h S, bc, bs) Q := gx_X.bs [0, 24, 48, 59, 81, 98, 132, 152, 165, 198, 217, 220, 255, 267, 289, 295] 7 (And.intro (k).1 (⟨0, 0, ⟨Nat.zero_le _, Nat.zero_le _⟩, (k).2⟩))
theorem gb_captureWithin_59 {d : Nat} {Q : gx_R → Prop} {bc bs : Nat} {S : Nat → Nat → Int32} {o1 : Option Value} {o2 : Option Value} {o3 : Option Value} {o4 : Option Value} {o5 : Option Value} {o6 : Option Value} (k : gx_X gm_P (d + 1) 41 (295, [some (.ref 0), o1, o2, o3, o4, o5, o6], [], gm_h S, bc, bs) Q) : gx_X gm_P (d + 1) 41 (59, [some (.ref 0), o1, o2, o3, o4, o5, o6], [], gm_h S, bc, bs) Q := gx_X.bs [0, 24, 48, 59, 81, 98, 132, 152, 165, 198, 217, 220, 255, 267, 289, 295] 2 (k)
theorem gb_captureWithin_81 {d : Nat} {Q : gx_R → Prop} {bc bs : Nat} {S : Nat → Nat → Int32} {o1 : Option Value} {o2 : Option Value} {o3 : Option Value} {o4 : Option Value} {o5 : Option Value} {o6 : Option Value} (k : gx_X gm_P (d + 1) 41 (295, [some (.ref 0), o1, o2, o3, o4, o5, o6], [], gm_h S, bc, bs) Q) : gx_X gm_P (d + 1) 41 (81, [some (.ref 0), o1, o2, o3, o4, o5, o6], [], gm_h S, bc, bs) Q := gx_X.bs [0, 24, 48, 59, 81, 98, 132, 152, 165, 198, 217, 220, 255, 267, 289, 295] 2 (k)
theorem gb_captureWithin_98 {d : Nat} {Q : gx_R → Prop} {bc bs : Nat} {S : Nat → Nat → Int32} {o1 : Option Value} {a2 : Int32} {o3 : Option Value} {o4 : Option Value} {a5 : Int32} {o6 : Option Value} (k : (vp_in (((13) * a5) + a2) 2600) ∧ (((¬ (S 20 (Int32.toNatClampNeg (((13) * a5) + a2))) < 0) → gx_X gm_P d 40 (0, [some (.ref 0), some (.int a5), some (.int a2)], [], gm_h S, 0, 0) (gx_k [some (.ref 0), o1, some (.int a2), o3, o4, some (.int a5), o6] [] 132 bc bs (fun S9 => gx_X gm_P (d + 1) 41 S9 Q) Q)) ∧ (((S 20 (Int32.toNatClampNeg (((13) * a5) + a2))) < 0) → (vp_in a5 200) ∧ (gx_X gm_P (d + 1) 41 (98, [some (.ref 0), o1, some (.int a2), o3, o4, some (.int (S 10 (Int32.toNatClampNeg a5))), o6], [], gm_h S, bc, bs) Q)))) : gx_X gm_P (d + 1) 41 (98, [some (.ref 0), o1, some (.int a2), o3, o4, some (.int a5), o6], [], gm_h S, bc, bs) Q := gx_X.bs [0, 24, 48, 59, 81, 98, 132, 152, 165, 198, 217, 220, 255, 267, 289, 295] 16 (And.intro (k).1 (And.intro (fun h1 => ⟨0, 0, ⟨Nat.zero_le _, Nat.zero_le _⟩, (((k).2).1 h1)⟩) (fun h1 => And.intro ((((k).2).2 h1)).1 (((((k).2).2 h1)).2))))
theorem gb_captureWithin_132 {d : Nat} {Q : gx_R → Prop} {bc bs : Nat} {S : Nat → Nat → Int32} {o1 : Option Value} {o2 : Option Value} {o3 : Option Value} {o4 : Option Value} {o5 : Option Value} {o6 : Option Value} (k : gx_X gm_P (d + 1) 41 (295, [some (.ref 0), o1, o2, o3, o4, o5, o6], [], gm_h S, bc, bs) Q) : gx_X gm_P (d + 1) 41 (132, [some (.ref 0), o1, o2, o3, o4, o5, o6], [], gm_h S, bc, bs) Q := gx_X.bs [0, 24, 48, 59, 81, 98, 132, 152, 165, 198, 217, 220, 255, 267, 289, 295] 2 (k)
theorem gb_captureWithin_152 {d : Nat} {Q : gx_R → Prop} {bc bs : Nat} {S : Nat → Nat → Int32} {o1 : Option Value} {o2 : Option Value} {o3 : Option Value} {a4 : Int32} {a5 : Int32} {a6 : Int32} (k : ((a6 < 0) → gx_X gm_P d 39 (0, [some (.ref 0), some (.int a4), none, none, none], [], gm_h S, 0, 0) (gx_k [some (.ref 0), o1, o2, o3, some (.int a4), some (.int a5), some (.int a6)] [] 198 bc bs (fun S9 => gx_X gm_P (d + 1) 41 S9 Q) Q)) ∧ ((¬ a6 < 0) → gx_X gm_P d 40 (0, [some (.ref 0), some (.int a6), some (.int a5)], [], gm_h S, 0, 0) (gx_k [some (.ref 0), o1, o2, o3, some (.int a4), some (.int a5), some (.int a6)] [] 165 bc bs (fun S9 => gx_X gm_P (d + 1) 41 S9 Q) Q))) : gx_X gm_P (d + 1) 41 (152, [some (.ref 0), o1, o2, o3, some (.int a4), some (.int a5), some (.int a6)], [], gm_h S, bc, bs) Q := gx_X.bs [0, 24, 48, 59, 81, 98, 132, 152, 165, 198, 217, 220, 255, 267, 289, 295] 6 (And.intro (fun h1 => ⟨0, 0, ⟨Nat.zero_le _, Nat.zero_le _⟩, ((k).1 h1)⟩) (fun h1 => ⟨0, 0, ⟨Nat.zero_le _, Nat.zero_le _⟩, ((k).2 h1)⟩))
theorem gb_captureWithin_165 {d : Nat} {Q : gx_R → Prop} {bc bs : Nat} {S : Nat → Nat → Int32} {o1 : Option Value} {o2 : Option Value} {o3 : Option Value} {a4 : Int32} {a5 : Int32} {a6 : Int32} (k : (vp_in (((13) * a6) + a5) 2600) ∧ ((vp_in a6 200) ∧ (gx_X gm_P (d + 1) 41 (152, [some (.ref 0), o1, o2, o3, some (.int a4), some (.int (S 20 (Int32.toNatClampNeg (((13) * a6) + a5)))), some (.int (S 10 (Int32.toNatClampNeg a6)))], [], gm_h S, bc, bs) Q))) : gx_X gm_P (d + 1) 41 (165, [some (.ref 0), o1, o2, o3, some (.int a4), some (.int a5), some (.int a6)], [], gm_h S, bc, bs) Q := gx_X.bs [0, 24, 48, 59, 81, 98, 132, 152, 165, 198, 217, 220, 255, 267, 289, 295] 16 (And.intro (k).1 (And.intro ((k).2).1 (((k).2).2)))
theorem gb_captureWithin_198 {d : Nat} {Q : gx_R → Prop} {bc bs : Nat} {S : Nat → Nat → Int32} {o1 : Option Value} {o2 : Option Value} {o3 : Option Value} {o4 : Option Value} {o5 : Option Value} {o6 : Option Value} (k : gx_X gm_P (d + 1) 41 (295, [some (.ref 0), o1, o2, o3, o4, o5, o6], [], gm_h S, bc, bs) Q) : gx_X gm_P (d + 1) 41 (198, [some (.ref 0), o1, o2, o3, o4, o5, o6], [], gm_h S, bc, bs) Q := gx_X.bs [0, 24, 48, 59, 81, 98, 132, 152, 165, 198, 217, 220, 255, 267, 289, 295] 2 (k)
theorem gb_captureWithin_217 {d : Nat} {Q : gx_R → Prop} {bc bs : Nat} {S : Nat → Nat → Int32} {a1 : Int32} {a2 : Int32} {a3 : Int32} {a4 : Int32} {o5 : Option Value} {o6 : Option Value} (k : gx_X gm_P (d + 1) 41 (220, [some (.ref 0), some (.int a1), some (.int a2), some (.int a3), some (.int a4), some (.int a2), o6], [], gm_h S, bc, bs) Q) : gx_X gm_P (d + 1) 41 (217, [some (.ref 0), some (.int a1), some (.int a2), some (.int a3), some (.int a4), o5, o6], [], gm_h S, bc, bs) Q := gx_X.bs [0, 24, 48, 59, 81, 98, 132, 152, 165, 198, 217, 220, 255, 267, 289, 295] 3 (k)
theorem gb_captureWithin_220 {d : Nat} {Q : gx_R → Prop} {bc bs : Nat} {S : Nat → Nat → Int32} {a1 : Int32} {o2 : Option Value} {a3 : Int32} {a4 : Int32} {a5 : Int32} {o6 : Option Value} (k : (vp_in a1 200) ∧ ((vp_in (((13) * (S 8 (Int32.toNatClampNeg a1))) + a5) 2600) ∧ ((((S 20 (Int32.toNatClampNeg (((13) * (S 8 (Int32.toNatClampNeg a1))) + a5))) < 0) → gx_X gm_P (d + 1) 41 (289, [some (.ref 0), some (.int a1), o2, some (.int a3), some (.int a4), some (.int a5), o6], [], gm_h S, bc, bs) Q) ∧ ((¬ (S 20 (Int32.toNatClampNeg (((13) * (S 8 (Int32.toNatClampNeg a1))) + a5))) < 0) → ((¬ a3 = (6)) → gx_X gm_P (d + 1) 41 (255, [some (.ref 0), some (.int a1), o2, some (.int a3), some (.int a4), some (.int a5), o6], [], gm_h S, bc, bs) Q) ∧ ((a3 = (6)) → ((¬ (S 0 28) = a4) → gx_X gm_P (d + 1) 41 (289, [some (.ref 0), some (.int a1), o2, some (.int a3), some (.int a4), some (.int a5), o6], [], gm_h S, bc, bs) Q) ∧ (((S 0 28) = a4) → gx_X gm_P (d + 1) 41 (255, [some (.ref 0), some (.int a1), o2, some (.int a3), some (.int a4), some (.int a5), o6], [], gm_h S, bc, bs) Q)))))) : gx_X gm_P (d + 1) 41 (220, [some (.ref 0), some (.int a1), o2, some (.int a3), some (.int a4), some (.int a5), o6], [], gm_h S, bc, bs) Q := gx_X.bs [0, 24, 48, 59, 81, 98, 132, 152, 165, 198, 217, 220, 255, 267, 289, 295] 20 (And.intro (k).1 (And.intro ((k).2).1 (And.intro (fun h3 => ((((k).2).2).1 h3)) (fun h3 => And.intro (fun h2 => ((((((k).2).2).2 h3)).1 h2)) (fun h2 => And.intro (fun h1 => ((((((((k).2).2).2 h3)).2 h2)).1 h1)) (fun h1 => ((((((((k).2).2).2 h3)).2 h2)).2 h1)))))))
theorem gb_captureWithin_255 {d : Nat} {Q : gx_R → Prop} {bc bs : Nat} {S : Nat → Nat → Int32} {a1 : Int32} {o2 : Option Value} {a3 : Int32} {a4 : Int32} {a5 : Int32} {o6 : Option Value} (k : (vp_in a1 200) ∧ (gx_X gm_P d 40 (0, [some (.ref 0), some (.int (S 8 (Int32.toNatClampNeg a1))), some (.int a5)], [], gm_h S, 0, 0) (gx_k [some (.ref 0), some (.int a1), o2, some (.int a3), some (.int a4), some (.int a5), o6] [] 267 bc bs (fun S9 => gx_X gm_P (d + 1) 41 S9 Q) Q))) : gx_X gm_P (d + 1) 41 (255, [some (.ref 0), some (.int a1), o2, some (.int a3), some (.int a4), some (.int a5), o6], [], gm_h S, bc, bs) Q := gx_X.bs [0, 24, 48, 59, 81, 98, 132, 152, 165, 198, 217, 220, 255, 267, 289, 295] 7 (And.intro (k).1 (⟨0, 0, ⟨Nat.zero_le _, Nat.zero_le _⟩, (k).2⟩))
theorem gb_captureWithin_267 {d : Nat} {Q : gx_R → Prop} {bc bs : Nat} {S : Nat → Nat → Int32} {a1 : Int32} {o2 : Option Value} {a3 : Int32} {a4 : Int32} {a5 : Int32} {o6 : Option Value} (k : (vp_in a1 200) ∧ ((vp_in (((13) * (S 8 (Int32.toNatClampNeg a1))) + a5) 2600) ∧ (gx_X gm_P (d + 1) 41 (220, [some (.ref 0), some (.int a1), o2, some (.int a3), some (.int a4), some (.int (S 20 (Int32.toNatClampNeg (((13) * (S 8 (Int32.toNatClampNeg a1))) + a5)))), o6], [], gm_h S, bc, bs) Q))) : gx_X gm_P (d + 1) 41 (267, [some (.ref 0), some (.int a1), o2, some (.int a3), some (.int a4), some (.int a5), o6], [], gm_h S, bc, bs) Q := gx_X.bs [0, 24, 48, 59, 81, 98, 132, 152, 165, 198, 217, 220, 255, 267, 289, 295] 14 (And.intro (k).1 (And.intro ((k).2).1 (((k).2).2)))
theorem gb_captureWithin_289 {d : Nat} {Q : gx_R → Prop} {bc bs : Nat} {S : Nat → Nat → Int32} {o1 : Option Value} {o2 : Option Value} {o3 : Option Value} {a4 : Int32} {o5 : Option Value} {o6 : Option Value} (k : gx_X gm_P d 39 (0, [some (.ref 0), some (.int a4), none, none, none], [], gm_h S, 0, 0) (gx_k [some (.ref 0), o1, o2, o3, some (.int a4), o5, o6] [] 295 bc bs (fun S9 => gx_X gm_P (d + 1) 41 S9 Q) Q)) : gx_X gm_P (d + 1) 41 (289, [some (.ref 0), o1, o2, o3, some (.int a4), o5, o6], [], gm_h S, bc, bs) Q := gx_X.bs [0, 24, 48, 59, 81, 98, 132, 152, 165, 198, 217, 220, 255, 267, 289, 295] 3 (⟨0, 0, ⟨Nat.zero_le _, Nat.zero_le _⟩, k⟩)
theorem gb_captureWithin_295 {d : Nat} {Q : gx_R → Prop} {bc bs : Nat} {S : Nat → Nat → Int32} {o1 : Option Value} {o2 : Option Value} {o3 : Option Value} {o4 : Option Value} {o5 : Option Value} {o6 : Option Value} (k : Q (.inl none, gm_h S)) : gx_X gm_P (d + 1) 41 (295, [some (.ref 0), o1, o2, o3, o4, o5, o6], [], gm_h S, bc, bs) Q := gx_X.bs [0, 24, 48, 59, 81, 98, 132, 152, 165, 198, 217, 220, 255, 267, 289, 295] 1 (k)
theorem gb_matched_0 {d : Nat} {Q : gx_R → Prop} {bc bs : Nat} {S : Nat → Nat → Int32} {a1 : Int32} {a2 : Int32} {o3 : Option Value} {o4 : Option Value} (k : gx_X gm_P d 37 (0, [some (.ref 0), some (.int a1), some (.int a2), none], [], gm_h S, 0, 0) (gx_k [some (.ref 0), some (.int a1), some (.int a2), o3, o4] [] 6 bc bs (fun S9 => gx_X gm_P (d + 1) 42 S9 Q) Q)) : gx_X gm_P (d + 1) 42 (0, [some (.ref 0), some (.int a1), some (.int a2), o3, o4], [], gm_h S, bc, bs) Q := gx_X.bs [0, 6, 42, 93, 96] 4 (⟨0, 0, ⟨Nat.zero_le _, Nat.zero_le _⟩, k⟩)
theorem gb_matched_6 {d : Nat} {Q : gx_R → Prop} {bc bs : Nat} {S : Nat → Nat → Int32} {a1 : Int32} {a2 : Int32} {o3 : Option Value} {o4 : Option Value} (k : (vp_in (((520) * a1) + a2) 2600) ∧ ((((S 20 (Int32.toNatClampNeg (((520) * a1) + a2))) < 0) → gx_X gm_P (d + 1) 42 (42, [some (.ref 0), some (.int a1), some (.int a2), some (.int (S 20 (Int32.toNatClampNeg (((520) * a1) + a2)))), o4], [], gm_h (gm_u (gm_u S 0 30 (0)) 0 28 (0)), bc, bs) Q) ∧ ((¬ (S 20 (Int32.toNatClampNeg (((520) * a1) + a2))) < 0) → gx_X gm_P d 40 (0, [some (.ref 0), some (.int ((40) * a1)), some (.int a2)], [], gm_h (gm_u (gm_u S 0 30 (0)) 0 28 (0)), 0, 0) (gx_k [some (.ref 0), some (.int a1), some (.int a2), some (.int (S 20 (Int32.toNatClampNeg (((520) * a1) + a2)))), o4] [] 42 bc bs (fun S9 => gx_X gm_P (d + 1) 42 S9 Q) Q)))) : gx_X gm_P (d + 1) 42 (6, [some (.ref 0), some (.int a1), some (.int a2), o3, o4], [], gm_h S, bc, bs) Q := gx_X.bs [0, 6, 42, 93, 96] 23 (And.intro (k).1 (And.intro (fun h1 => (((k).2).1 h1)) (fun h1 => ⟨0, 0, ⟨Nat.zero_le _, Nat.zero_le _⟩, (((k).2).2 h1)⟩)))
theorem gb_matched_42 {d : Nat} {Q : gx_R → Prop} {bc bs : Nat} {S : Nat → Nat → Int32} {o1 : Option Value} {o2 : Option Value} {a3 : Int32} {o4 : Option Value} (k : ((¬ 0 < (S 0 28)) → gx_X gm_P (d + 1) 42 (96, [some (.ref 0), o1, o2, some (.int a3), o4], [], gm_h S, bc, bs) Q) ∧ ((0 < (S 0 28)) → ((¬ (S 0 30) < (40)) → gx_X gm_P (d + 1) 42 (96, [some (.ref 0), o1, o2, some (.int a3), o4], [], gm_h S, bc, bs) Q) ∧ (((S 0 30) < (40)) → (vp_in ((S 0 28) - (1)) 2600) ∧ (gx_X gm_P d 41 (0, [some (.ref 0), some (.int ((S 22 (Int32.toNatClampNeg ((S 0 28) - (1)))) / (13))), some (.int ((S 22 (Int32.toNatClampNeg ((S 0 28) - (1)))) - (S 22 (Int32.toNatClampNeg ((S 0 28) - (1)))) / (13) * (13))), none, none, none, none], [], gm_h (gm_u S 0 28 ((S 0 28) - (1))), 0, 0) (gx_k [some (.ref 0), o1, o2, some (.int a3), some (.int (S 22 (Int32.toNatClampNeg ((S 0 28) - (1)))))] [] 93 bc bs (fun S9 => gx_X gm_P (d + 1) 42 S9 Q) Q))))) : gx_X gm_P (d + 1) 42 (42, [some (.ref 0), o1, o2, some (.int a3), o4], [], gm_h S, bc, bs) Q := gx_X.bs [0, 6, 42, 93, 96] 27 (And.intro (fun h2 => ((k).1 h2)) (fun h2 => And.intro (fun h1 => ((((k).2 h2)).1 h1)) (fun h1 => And.intro (((((k).2 h2)).2 h1)).1 (And.intro (by first | decide | (unfold vp_in; decide)) (And.intro (by first | decide | (unfold vp_in; decide)) (⟨0, 0, ⟨Nat.zero_le _, Nat.zero_le _⟩, (((((k).2 h2)).2 h1)).2⟩))))))
theorem gb_matched_93 {d : Nat} {Q : gx_R → Prop} {bc bs : Nat} {S : Nat → Nat → Int32} {o1 : Option Value} {o2 : Option Value} {a3 : Int32} {o4 : Option Value} (k : gx_X gm_P (d + 1) 42 (42, [some (.ref 0), o1, o2, some (.int a3), o4], [], gm_h S, bc, bs) Q) : gx_X gm_P (d + 1) 42 (93, [some (.ref 0), o1, o2, some (.int a3), o4], [], gm_h S, bc, bs) Q := gx_X.bs [0, 6, 42, 93, 96] 2 (k)
theorem gb_matched_96 {d : Nat} {Q : gx_R → Prop} {bc bs : Nat} {S : Nat → Nat → Int32} {o1 : Option Value} {o2 : Option Value} {a3 : Int32} {o4 : Option Value} (k : Q (.inl (some (.int a3)), gm_h S)) : gx_X gm_P (d + 1) 42 (96, [some (.ref 0), o1, o2, some (.int a3), o4], [], gm_h S, bc, bs) Q := gx_X.bs [0, 6, 42, 93, 96] 2 (k)
theorem gb_match_0 {d : Nat} {Q : gx_R → Prop} {bc bs : Nat} {S : Nat → Nat → Int32} {a1 : Int32} {a2 : Int32} (k : gx_X gm_P d 2 (0, [some (.int a1)], [], gm_h S, 0, 0) (gx_k [some (.ref 0), some (.int a1), some (.int a2)] [.ref 0] 5 bc bs (fun S9 => gx_X gm_P (d + 1) 43 S9 Q) Q)) : gx_X gm_P (d + 1) 43 (0, [some (.ref 0), some (.int a1), some (.int a2)], [], gm_h S, bc, bs) Q := gx_X.bs [0, 5, 20, 29, 37, 53, 59] 3 (⟨0, 0, ⟨Nat.zero_le _, Nat.zero_le _⟩, k⟩)
theorem gb_match_5 {d : Nat} {Q : gx_R → Prop} {bc bs : Nat} {S : Nat → Nat → Int32} {a1 : Int32} {a2 : Int32} {s0 : Int32} (k : ((s0 = 0) → gx_X gm_P (d + 1) 43 (20, [some (.ref 0), some (.int a1), some (.int a2)], [.ref 0], gm_h S, bc, bs) Q) ∧ ((¬ s0 = 0) → ((a2 < 0) → gx_X gm_P (d + 1) 43 (20, [some (.ref 0), some (.int a1), some (.int a2)], [.ref 0], gm_h S, bc, bs) Q) ∧ ((¬ a2 < 0) → ((¬ (S 0 4) < a2) → gx_X gm_P d 27 (0, [some (.ref 0), some (.int a1), none, none, none, none, none, none], [], gm_h S, 0, 0) (gx_k [some (.ref 0), some (.int a1), some (.int a2)] [.ref 0] 29 bc bs (fun S9 => gx_X gm_P (d + 1) 43 S9 Q) Q)) ∧ (((S 0 4) < a2) → gx_X gm_P (d + 1) 43 (20, [some (.ref 0), some (.int a1), some (.int a2)], [.ref 0], gm_h S, bc, bs) Q)))) : gx_X gm_P (d + 1) 43 (5, [some (.ref 0), some (.int a1), some (.int a2)], [.int s0, .ref 0], gm_h S, bc, bs) Q := gx_X.bs [0, 5, 20, 29, 37, 53, 59] 10 (And.intro (fun h3 => ((k).1 h3)) (fun h3 => And.intro (fun h2 => ((((k).2 h3)).1 h2)) (fun h2 => And.intro (fun h1 => ⟨0, 0, ⟨Nat.zero_le _, Nat.zero_le _⟩, ((((((k).2 h3)).2 h2)).1 h1)⟩) (fun h1 => ((((((k).2 h3)).2 h2)).2 h1)))))
theorem gb_match_20 {d : Nat} {Q : gx_R → Prop} {bc bs : Nat} {S : Nat → Nat → Int32} {a1 : Int32} {a2 : Int32} (k : gx_X gm_P (d + 1) 43 (37, [some (.ref 0), some (.int a1), some (.int a2)], [.int (1), .ref 0], gm_h S, bc, bs) Q) : gx_X gm_P (d + 1) 43 (20, [some (.ref 0), some (.int a1), some (.int a2)], [.ref 0], gm_h S, bc, bs) Q := gx_X.bs [0, 5, 20, 29, 37, 53, 59] 3 (k)
theorem gb_match_29 {d : Nat} {Q : gx_R → Prop} {bc bs : Nat} {S : Nat → Nat → Int32} {a1 : Int32} {a2 : Int32} {s0 : Int32} (k : ((s0 = 0) → gx_X gm_P (d + 1) 43 (37, [some (.ref 0), some (.int a1), some (.int a2)], [.int (0), .ref 0], gm_h S, bc, bs) Q) ∧ ((¬ s0 = 0) → gx_X gm_P (d + 1) 43 (37, [some (.ref 0), some (.int a1), some (.int a2)], [.int (2), .ref 0], gm_h S, bc, bs) Q)) : gx_X gm_P (d + 1) 43 (29, [some (.ref 0), some (.int a1), some (.int a2)], [.int s0, .ref 0], gm_h S, bc, bs) Q := gx_X.bs [0, 5, 20, 29, 37, 53, 59] 4 (And.intro (fun h1 => ((k).1 h1)) (fun h1 => ((k).2 h1)))
theorem gb_match_37 {d : Nat} {Q : gx_R → Prop} {bc bs : Nat} {S : Nat → Nat → Int32} {a1 : Int32} {a2 : Int32} {s0 : Int32} (k : ((¬ 0 < s0) → gx_X gm_P d 33 (0, [some (.ref 0), none, none, none], [], gm_h (gm_u S 0 0 s0), 0, 0) (gx_k [some (.ref 0), some (.int a1), some (.int a2)] [] 53 bc bs (fun S9 => gx_X gm_P (d + 1) 43 S9 Q) Q)) ∧ ((0 < s0) → Q (.inl (some (.int (0))), gm_h (gm_u S 0 0 s0)))) : gx_X gm_P (d + 1) 43 (37, [some (.ref 0), some (.int a1), some (.int a2)], [.int s0, .ref 0], gm_h S, bc, bs) Q := gx_X.bs [0, 5, 20, 29, 37, 53, 59] 6 (And.intro (fun h1 => ⟨0, 0, ⟨Nat.zero_le _, Nat.zero_le _⟩, ((k).1 h1)⟩) (fun h1 => ((k).2 h1)))
theorem gb_match_53 {d : Nat} {Q : gx_R → Prop} {bc bs : Nat} {S : Nat → Nat → Int32} {a1 : Int32} {a2 : Int32} (k : gx_X gm_P d 42 (0, [some (.ref 0), some (.int a1), some (.int a2), none, none], [], gm_h S, 0, 0) (gx_k [some (.ref 0), some (.int a1), some (.int a2)] [] 59 bc bs (fun S9 => gx_X gm_P (d + 1) 43 S9 Q) Q)) : gx_X gm_P (d + 1) 43 (53, [some (.ref 0), some (.int a1), some (.int a2)], [], gm_h S, bc, bs) Q := gx_X.bs [0, 5, 20, 29, 37, 53, 59] 4 (⟨0, 0, ⟨Nat.zero_le _, Nat.zero_le _⟩, k⟩)
theorem gb_match_59 {d : Nat} {Q : gx_R → Prop} {bc bs : Nat} {S : Nat → Nat → Int32} {o1 : Option Value} {o2 : Option Value} {s0 : Int32} (k : Q (.inl (some (.int s0)), gm_h S)) : gx_X gm_P (d + 1) 43 (59, [some (.ref 0), o1, o2], [.int s0], gm_h S, bc, bs) Q := gx_X.bs [0, 5, 20, 29, 37, 53, 59] 1 (k)
theorem gb_find_0 {d : Nat} {Q : gx_R → Prop} {bc bs : Nat} {S : Nat → Nat → Int32} {a1 : Int32} {o2 : Option Value} (k : gx_X gm_P d 2 (0, [some (.int a1)], [], gm_h S, 0, 0) (gx_k [some (.ref 0), some (.int a1), o2] [.ref 0] 5 bc bs (fun S9 => gx_X gm_P (d + 1) 44 S9 Q) Q)) : gx_X gm_P (d + 1) 44 (0, [some (.ref 0), some (.int a1), o2], [], gm_h S, bc, bs) Q := gx_X.bs [0, 5, 17, 25, 41, 43, 57, 66, 79] 3 (⟨0, 0, ⟨Nat.zero_le _, Nat.zero_le _⟩, k⟩)
theorem gb_find_5 {d : Nat} {Q : gx_R → Prop} {bc bs : Nat} {S : Nat → Nat → Int32} {a1 : Int32} {o2 : Option Value} {s0 : Int32} (k : ((¬ s0 = 0) → gx_X gm_P d 27 (0, [some (.ref 0), some (.int a1), none, none, none, none, none, none], [], gm_h S, 0, 0) (gx_k [some (.ref 0), some (.int a1), o2] [.ref 0] 17 bc bs (fun S9 => gx_X gm_P (d + 1) 44 S9 Q) Q)) ∧ ((s0 = 0) → gx_X gm_P (d + 1) 44 (25, [some (.ref 0), some (.int a1), o2], [.int (1), .ref 0], gm_h S, bc, bs) Q)) : gx_X gm_P (d + 1) 44 (5, [some (.ref 0), some (.int a1), o2], [.int s0, .ref 0], gm_h S, bc, bs) Q := gx_X.bs [0, 5, 17, 25, 41, 43, 57, 66, 79] 4 (And.intro (fun h1 => ⟨0, 0, ⟨Nat.zero_le _, Nat.zero_le _⟩, ((k).1 h1)⟩) (fun h1 => ((k).2 h1)))
theorem gb_find_17 {d : Nat} {Q : gx_R → Prop} {bc bs : Nat} {S : Nat → Nat → Int32} {a1 : Int32} {o2 : Option Value} {s0 : Int32} (k : ((s0 = 0) → gx_X gm_P (d + 1) 44 (25, [some (.ref 0), some (.int a1), o2], [.int (0), .ref 0], gm_h S, bc, bs) Q) ∧ ((¬ s0 = 0) → gx_X gm_P (d + 1) 44 (25, [some (.ref 0), some (.int a1), o2], [.int (2), .ref 0], gm_h S, bc, bs) Q)) : gx_X gm_P (d + 1) 44 (17, [some (.ref 0), some (.int a1), o2], [.int s0, .ref 0], gm_h S, bc, bs) Q := gx_X.bs [0, 5, 17, 25, 41, 43, 57, 66, 79] 4 (And.intro (fun h1 => ((k).1 h1)) (fun h1 => ((k).2 h1)))
theorem gb_find_25 {d : Nat} {Q : gx_R → Prop} {bc bs : Nat} {S : Nat → Nat → Int32} {a1 : Int32} {o2 : Option Value} {s0 : Int32} (k : ((¬ 0 < s0) → gx_X gm_P d 33 (0, [some (.ref 0), none, none, none], [], gm_h (gm_u S 0 0 s0), 0, 0) (gx_k [some (.ref 0), some (.int a1), o2] [] 41 bc bs (fun S9 => gx_X gm_P (d + 1) 44 S9 Q) Q)) ∧ ((0 < s0) → Q (.inl (some (.int (0))), gm_h (gm_u S 0 0 s0)))) : gx_X gm_P (d + 1) 44 (25, [some (.ref 0), some (.int a1), o2], [.int s0, .ref 0], gm_h S, bc, bs) Q := gx_X.bs [0, 5, 17, 25, 41, 43, 57, 66, 79] 6 (And.intro (fun h1 => ⟨0, 0, ⟨Nat.zero_le _, Nat.zero_le _⟩, ((k).1 h1)⟩) (fun h1 => ((k).2 h1)))
theorem gb_find_41 {d : Nat} {Q : gx_R → Prop} {bc bs : Nat} {S : Nat → Nat → Int32} {a1 : Int32} {o2 : Option Value} (k : gx_X gm_P (d + 1) 44 (43, [some (.ref 0), some (.int a1), some (.int (0))], [], gm_h S, bc, bs) Q) : gx_X gm_P (d + 1) 44 (41, [some (.ref 0), some (.int a1), o2], [], gm_h S, bc, bs) Q := gx_X.bs [0, 5, 17, 25, 41, 43, 57, 66, 79] 3 (k)
theorem gb_find_43 {d : Nat} {Q : gx_R → Prop} {bc bs : Nat} {S : Nat → Nat → Int32} {a1 : Int32} {a2 : Int32} (k : (((S 0 4) < a2) → gx_X gm_P (d + 1) 44 (66, [some (.ref 0), some (.int a1), some (.int a2)], [], gm_h S, bc, bs) Q) ∧ ((¬ (S 0 4) < a2) → gx_X gm_P d 42 (0, [some (.ref 0), some (.int a1), some (.int a2), none, none], [], gm_h S, 0, 0) (gx_k [some (.ref 0), some (.int a1), some (.int a2)] [] 57 bc bs (fun S9 => gx_X gm_P (d + 1) 44 S9 Q) Q))) : gx_X gm_P (d + 1) 44 (43, [some (.ref 0), some (.int a1), some (.int a2)], [], gm_h S, bc, bs) Q := gx_X.bs [0, 5, 17, 25, 41, 43, 57, 66, 79] 8 (And.intro (fun h1 => ((k).1 h1)) (fun h1 => ⟨0, 0, ⟨Nat.zero_le _, Nat.zero_le _⟩, ((k).2 h1)⟩))
theorem gb_find_57 {d : Nat} {Q : gx_R → Prop} {bc bs : Nat} {S : Nat → Nat → Int32} {a1 : Int32} {a2 : Int32} {s0 : Int32} (k : ((¬ s0 < 0) → gx_X gm_P (d + 1) 44 (66, [some (.ref 0), some (.int a1), some (.int a2)], [], gm_h S, bc, bs) Q) ∧ ((s0 < 0) → gx_X gm_P (d + 1) 44 (43, [some (.ref 0), some (.int a1), some (.int (a2 + Int32.ofInt (1)))], [], gm_h S, bc, bs) Q)) : gx_X gm_P (d + 1) 44 (57, [some (.ref 0), some (.int a1), some (.int a2)], [.int s0], gm_h S, bc, bs) Q := gx_X.bs [0, 5, 17, 25, 41, 43, 57, 66, 79] 4 (And.intro (fun h1 => ((k).1 h1)) (fun h1 => ((k).2 h1)))
theorem gb_find_66 {d : Nat} {Q : gx_R → Prop} {bc bs : Nat} {S : Nat → Nat → Int32} {o1 : Option Value} {a2 : Int32} (k : ((¬ (S 0 4) < a2) → gx_X gm_P (d + 1) 44 (79, [some (.ref 0), o1, some (.int a2)], [.int a2], gm_h S, bc, bs) Q) ∧ (((S 0 4) < a2) → gx_X gm_P (d + 1) 44 (79, [some (.ref 0), o1, some (.int a2)], [.int (-1)], gm_h S, bc, bs) Q)) : gx_X gm_P (d + 1) 44 (66, [some (.ref 0), o1, some (.int a2)], [], gm_h S, bc, bs) Q := gx_X.bs [0, 5, 17, 25, 41, 43, 57, 66, 79] 7 (And.intro (fun h1 => ((k).1 h1)) (fun h1 => ((k).2 h1)))
theorem gb_find_79 {d : Nat} {Q : gx_R → Prop} {bc bs : Nat} {S : Nat → Nat → Int32} {o1 : Option Value} {o2 : Option Value} {s0 : Int32} (k : Q (.inl (some (.int s0)), gm_h S)) : gx_X gm_P (d + 1) 44 (79, [some (.ref 0), o1, o2], [.int s0], gm_h S, bc, bs) Q := gx_X.bs [0, 5, 17, 25, 41, 43, 57, 66, 79] 1 (k)
theorem gb_captures_0 {d : Nat} {Q : gx_R → Prop} {bc bs : Nat} {S : Nat → Nat → Int32}  (k : Q (.inl (some (.int (S 0 30))), gm_h (gm_u S 0 0 (0)))) : gx_X gm_P (d + 1) 45 (0, [some (.ref 0)], [], gm_h S, bc, bs) Q := gx_X.bs [0] 6 (k)
theorem gb_capture_0 {d : Nat} {Q : gx_R → Prop} {bc bs : Nat} {S : Nat → Nat → Int32} {a1 : Int32} {a2 : Int32} (k : ((a1 < 0) → gx_X gm_P (d + 1) 46 (22, [some (.ref 0), some (.int a1), some (.int a2)], [.ref 0], gm_h S, bc, bs) Q) ∧ ((¬ a1 < 0) → ((¬ a1 < (S 0 30)) → gx_X gm_P (d + 1) 46 (22, [some (.ref 0), some (.int a1), some (.int a2)], [.ref 0], gm_h S, bc, bs) Q) ∧ ((a1 < (S 0 30)) → ((a2 < 0) → gx_X gm_P (d + 1) 46 (22, [some (.ref 0), some (.int a1), some (.int a2)], [.ref 0], gm_h S, bc, bs) Q) ∧ ((¬ a2 < 0) → ((¬ (1) < a2) → gx_X gm_P (d + 1) 46 (27, [some (.ref 0), some (.int a1), some (.int a2)], [.int (0), .ref 0], gm_h S, bc, bs) Q) ∧ (((1) < a2) → gx_X gm_P (d + 1) 46 (22, [some (.ref 0), some (.int a1), some (.int a2)], [.ref 0], gm_h S, bc, bs) Q))))) : gx_X gm_P (d + 1) 46 (0, [some (.ref 0), some (.int a1), some (.int a2)], [], gm_h S, bc, bs) Q := gx_X.bs [0, 22, 27, 58] 14 (And.intro (fun h4 => ((k).1 h4)) (fun h4 => And.intro (fun h3 => ((((k).2 h4)).1 h3)) (fun h3 => And.intro (fun h2 => ((((((k).2 h4)).2 h3)).1 h2)) (fun h2 => And.intro (fun h1 => ((((((((k).2 h4)).2 h3)).2 h2)).1 h1)) (fun h1 => ((((((((k).2 h4)).2 h3)).2 h2)).2 h1))))))
theorem gb_capture_22 {d : Nat} {Q : gx_R → Prop} {bc bs : Nat} {S : Nat → Nat → Int32} {a1 : Int32} {a2 : Int32} (k : gx_X gm_P (d + 1) 46 (27, [some (.ref 0), some (.int a1), some (.int a2)], [.int (1), .ref 0], gm_h S, bc, bs) Q) : gx_X gm_P (d + 1) 46 (22, [some (.ref 0), some (.int a1), some (.int a2)], [.ref 0], gm_h S, bc, bs) Q := gx_X.bs [0, 22, 27, 58] 3 (k)
theorem gb_capture_27 {d : Nat} {Q : gx_R → Prop} {bc bs : Nat} {S : Nat → Nat → Int32} {a1 : Int32} {a2 : Int32} {s0 : Int32} (k : ((¬ 0 < s0) → ((¬ a2 = 0) → (vp_in a1 40) ∧ (gx_X gm_P (d + 1) 46 (58, [some (.ref 0), some (.int a1), some (.int a2)], [.int (S 25 (Int32.toNatClampNeg a1))], gm_h (gm_u S 0 0 s0), bc, bs) Q)) ∧ ((a2 = 0) → (vp_in a1 40) ∧ (gx_X gm_P (d + 1) 46 (58, [some (.ref 0), some (.int a1), some (.int a2)], [.int (S 24 (Int32.toNatClampNeg a1))], gm_h (gm_u S 0 0 s0), bc, bs) Q))) ∧ ((0 < s0) → Q (.inl (some (.int (0))), gm_h (gm_u S 0 0 s0)))) : gx_X gm_P (d + 1) 46 (27, [some (.ref 0), some (.int a1), some (.int a2)], [.int s0, .ref 0], gm_h S, bc, bs) Q := gx_X.bs [0, 22, 27, 58] 12 (And.intro (fun h2 => And.intro (fun h1 => And.intro (((((k).1 h2)).1 h1)).1 ((((((k).1 h2)).1 h1)).2)) (fun h1 => And.intro (((((k).1 h2)).2 h1)).1 ((((((k).1 h2)).2 h1)).2))) (fun h2 => ((k).2 h2)))
theorem gb_capture_58 {d : Nat} {Q : gx_R → Prop} {bc bs : Nat} {S : Nat → Nat → Int32} {o1 : Option Value} {o2 : Option Value} {s0 : Int32} (k : Q (.inl (some (.int s0)), gm_h S)) : gx_X gm_P (d + 1) 46 (58, [some (.ref 0), o1, o2], [.int s0], gm_h S, bc, bs) Q := gx_X.bs [0, 22, 27, 58] 1 (k)
theorem gb_farthest_0 {d : Nat} {Q : gx_R → Prop} {bc bs : Nat} {S : Nat → Nat → Int32}  (k : Q (.inl (some (.int (S 0 33))), gm_h (gm_u S 0 0 (0)))) : gx_X gm_P (d + 1) 47 (0, [some (.ref 0)], [], gm_h S, bc, bs) Q := gx_X.bs [0] 6 (k)
theorem gb_tried_0 {d : Nat} {Q : gx_R → Prop} {bc bs : Nat} {S : Nat → Nat → Int32}  (k : Q (.inl (some (.int (S 0 34))), gm_h (gm_u S 0 0 (0)))) : gx_X gm_P (d + 1) 48 (0, [some (.ref 0)], [], gm_h S, bc, bs) Q := gx_X.bs [0] 6 (k)
end
section
/-! The decode rows of the model. -/
theorem gd_0_0 : decode gm_c0 0 = .ok (.aload_n 0, 1) := by decide +kernel
theorem gd_0_1 : decode gm_c0 1 = .ok (.invokespecial 1, 3) := by decide +kernel
theorem gd_0_4 : decode gm_c0 4 = .ok (.aload_n 0, 1) := by decide +kernel
theorem gd_0_5 : decode gm_c0 5 = .ok (.bipush (20), 2) := by decide +kernel
theorem gd_0_7 : decode gm_c0 7 = .ok (.newarray .int, 2) := by decide +kernel
theorem gd_0_9 : decode gm_c0 9 = .ok (.putfield 7, 3) := by decide +kernel
theorem gd_0_12 : decode gm_c0 12 = .ok (.aload_n 0, 1) := by decide +kernel
theorem gd_0_13 : decode gm_c0 13 = .ok (.bipush (12), 2) := by decide +kernel
theorem gd_0_15 : decode gm_c0 15 = .ok (.newarray .int, 2) := by decide +kernel
theorem gd_0_17 : decode gm_c0 17 = .ok (.putfield 13, 3) := by decide +kernel
theorem gd_0_20 : decode gm_c0 20 = .ok (.aload_n 0, 1) := by decide +kernel
theorem gd_0_21 : decode gm_c0 21 = .ok (.iconst 4, 1) := by decide +kernel
theorem gd_0_22 : decode gm_c0 22 = .ok (.newarray .boolean, 2) := by decide +kernel
theorem gd_0_24 : decode gm_c0 24 = .ok (.putfield 16, 3) := by decide +kernel
theorem gd_0_27 : decode gm_c0 27 = .ok (.aload_n 0, 1) := by decide +kernel
theorem gd_0_28 : decode gm_c0 28 = .ok (.bipush (80), 2) := by decide +kernel
theorem gd_0_30 : decode gm_c0 30 = .ok (.newarray .int, 2) := by decide +kernel
theorem gd_0_32 : decode gm_c0 32 = .ok (.putfield 20, 3) := by decide +kernel
theorem gd_0_35 : decode gm_c0 35 = .ok (.aload_n 0, 1) := by decide +kernel
theorem gd_0_36 : decode gm_c0 36 = .ok (.iconst 4, 1) := by decide +kernel
theorem gd_0_37 : decode gm_c0 37 = .ok (.newarray .int, 2) := by decide +kernel
theorem gd_0_39 : decode gm_c0 39 = .ok (.putfield 23, 3) := by decide +kernel
theorem gd_0_42 : decode gm_c0 42 = .ok (.aload_n 0, 1) := by decide +kernel
theorem gd_0_43 : decode gm_c0 43 = .ok (.iconst 5, 1) := by decide +kernel
theorem gd_0_44 : decode gm_c0 44 = .ok (.newarray .int, 2) := by decide +kernel
theorem gd_0_46 : decode gm_c0 46 = .ok (.putfield 26, 3) := by decide +kernel
theorem gd_0_49 : decode gm_c0 49 = .ok (.aload_n 0, 1) := by decide +kernel
theorem gd_0_50 : decode gm_c0 50 = .ok (.sipush (200), 3) := by decide +kernel
theorem gd_0_53 : decode gm_c0 53 = .ok (.newarray .int, 2) := by decide +kernel
theorem gd_0_55 : decode gm_c0 55 = .ok (.putfield 29, 3) := by decide +kernel
theorem gd_0_58 : decode gm_c0 58 = .ok (.aload_n 0, 1) := by decide +kernel
theorem gd_0_59 : decode gm_c0 59 = .ok (.sipush (200), 3) := by decide +kernel
theorem gd_0_62 : decode gm_c0 62 = .ok (.newarray .int, 2) := by decide +kernel
theorem gd_0_64 : decode gm_c0 64 = .ok (.putfield 32, 3) := by decide +kernel
theorem gd_0_67 : decode gm_c0 67 = .ok (.aload_n 0, 1) := by decide +kernel
theorem gd_0_68 : decode gm_c0 68 = .ok (.sipush (200), 3) := by decide +kernel
theorem gd_0_71 : decode gm_c0 71 = .ok (.newarray .int, 2) := by decide +kernel
theorem gd_0_73 : decode gm_c0 73 = .ok (.putfield 35, 3) := by decide +kernel
theorem gd_0_76 : decode gm_c0 76 = .ok (.aload_n 0, 1) := by decide +kernel
theorem gd_0_77 : decode gm_c0 77 = .ok (.sipush (200), 3) := by decide +kernel
theorem gd_0_80 : decode gm_c0 80 = .ok (.newarray .int, 2) := by decide +kernel
theorem gd_0_82 : decode gm_c0 82 = .ok (.putfield 38, 3) := by decide +kernel
theorem gd_0_85 : decode gm_c0 85 = .ok (.aload_n 0, 1) := by decide +kernel
theorem gd_0_86 : decode gm_c0 86 = .ok (.sipush (200), 3) := by decide +kernel
theorem gd_0_89 : decode gm_c0 89 = .ok (.newarray .int, 2) := by decide +kernel
theorem gd_0_91 : decode gm_c0 91 = .ok (.putfield 41, 3) := by decide +kernel
theorem gd_0_94 : decode gm_c0 94 = .ok (.aload_n 0, 1) := by decide +kernel
theorem gd_0_95 : decode gm_c0 95 = .ok (.sipush (200), 3) := by decide +kernel
theorem gd_0_98 : decode gm_c0 98 = .ok (.newarray .boolean, 2) := by decide +kernel
theorem gd_0_100 : decode gm_c0 100 = .ok (.putfield 44, 3) := by decide +kernel
theorem gd_0_103 : decode gm_c0 103 = .ok (.aload_n 0, 1) := by decide +kernel
theorem gd_0_104 : decode gm_c0 104 = .ok (.sipush (200), 3) := by decide +kernel
theorem gd_0_107 : decode gm_c0 107 = .ok (.newarray .int, 2) := by decide +kernel
theorem gd_0_109 : decode gm_c0 109 = .ok (.putfield 47, 3) := by decide +kernel
theorem gd_0_112 : decode gm_c0 112 = .ok (.aload_n 0, 1) := by decide +kernel
theorem gd_0_113 : decode gm_c0 113 = .ok (.iconst 4, 1) := by decide +kernel
theorem gd_0_114 : decode gm_c0 114 = .ok (.newarray .int, 2) := by decide +kernel
theorem gd_0_116 : decode gm_c0 116 = .ok (.putfield 50, 3) := by decide +kernel
theorem gd_0_119 : decode gm_c0 119 = .ok (.aload_n 0, 1) := by decide +kernel
theorem gd_0_120 : decode gm_c0 120 = .ok (.bipush (8), 2) := by decide +kernel
theorem gd_0_122 : decode gm_c0 122 = .ok (.newarray .int, 2) := by decide +kernel
theorem gd_0_124 : decode gm_c0 124 = .ok (.putfield 53, 3) := by decide +kernel
theorem gd_0_127 : decode gm_c0 127 = .ok (.aload_n 0, 1) := by decide +kernel
theorem gd_0_128 : decode gm_c0 128 = .ok (.bipush (8), 2) := by decide +kernel
theorem gd_0_130 : decode gm_c0 130 = .ok (.newarray .int, 2) := by decide +kernel
theorem gd_0_132 : decode gm_c0 132 = .ok (.putfield 56, 3) := by decide +kernel
theorem gd_0_135 : decode gm_c0 135 = .ok (.aload_n 0, 1) := by decide +kernel
theorem gd_0_136 : decode gm_c0 136 = .ok (.bipush (8), 2) := by decide +kernel
theorem gd_0_138 : decode gm_c0 138 = .ok (.newarray .int, 2) := by decide +kernel
theorem gd_0_140 : decode gm_c0 140 = .ok (.putfield 59, 3) := by decide +kernel
theorem gd_0_143 : decode gm_c0 143 = .ok (.aload_n 0, 1) := by decide +kernel
theorem gd_0_144 : decode gm_c0 144 = .ok (.bipush (8), 2) := by decide +kernel
theorem gd_0_146 : decode gm_c0 146 = .ok (.newarray .int, 2) := by decide +kernel
theorem gd_0_148 : decode gm_c0 148 = .ok (.putfield 62, 3) := by decide +kernel
theorem gd_0_151 : decode gm_c0 151 = .ok (.aload_n 0, 1) := by decide +kernel
theorem gd_0_152 : decode gm_c0 152 = .ok (.bipush (8), 2) := by decide +kernel
theorem gd_0_154 : decode gm_c0 154 = .ok (.newarray .int, 2) := by decide +kernel
theorem gd_0_156 : decode gm_c0 156 = .ok (.putfield 65, 3) := by decide +kernel
theorem gd_0_159 : decode gm_c0 159 = .ok (.aload_n 0, 1) := by decide +kernel
theorem gd_0_160 : decode gm_c0 160 = .ok (.sipush (2600), 3) := by decide +kernel
theorem gd_0_163 : decode gm_c0 163 = .ok (.newarray .int, 2) := by decide +kernel
theorem gd_0_165 : decode gm_c0 165 = .ok (.putfield 68, 3) := by decide +kernel
theorem gd_0_168 : decode gm_c0 168 = .ok (.aload_n 0, 1) := by decide +kernel
theorem gd_0_169 : decode gm_c0 169 = .ok (.sipush (2600), 3) := by decide +kernel
theorem gd_0_172 : decode gm_c0 172 = .ok (.newarray .boolean, 2) := by decide +kernel
theorem gd_0_174 : decode gm_c0 174 = .ok (.putfield 71, 3) := by decide +kernel
theorem gd_0_177 : decode gm_c0 177 = .ok (.aload_n 0, 1) := by decide +kernel
theorem gd_0_178 : decode gm_c0 178 = .ok (.sipush (2600), 3) := by decide +kernel
theorem gd_0_181 : decode gm_c0 181 = .ok (.newarray .int, 2) := by decide +kernel
theorem gd_0_183 : decode gm_c0 183 = .ok (.putfield 74, 3) := by decide +kernel
theorem gd_0_186 : decode gm_c0 186 = .ok (.aload_n 0, 1) := by decide +kernel
theorem gd_0_187 : decode gm_c0 187 = .ok (.bipush (52), 2) := by decide +kernel
theorem gd_0_189 : decode gm_c0 189 = .ok (.newarray .boolean, 2) := by decide +kernel
theorem gd_0_191 : decode gm_c0 191 = .ok (.putfield 77, 3) := by decide +kernel
theorem gd_0_194 : decode gm_c0 194 = .ok (.aload_n 0, 1) := by decide +kernel
theorem gd_0_195 : decode gm_c0 195 = .ok (.bipush (40), 2) := by decide +kernel
theorem gd_0_197 : decode gm_c0 197 = .ok (.newarray .int, 2) := by decide +kernel
theorem gd_0_199 : decode gm_c0 199 = .ok (.putfield 80, 3) := by decide +kernel
theorem gd_0_202 : decode gm_c0 202 = .ok (.aload_n 0, 1) := by decide +kernel
theorem gd_0_203 : decode gm_c0 203 = .ok (.bipush (40), 2) := by decide +kernel
theorem gd_0_205 : decode gm_c0 205 = .ok (.newarray .int, 2) := by decide +kernel
theorem gd_0_207 : decode gm_c0 207 = .ok (.putfield 83, 3) := by decide +kernel
theorem gd_0_210 : decode gm_c0 210 = .ok (.aload_n 0, 1) := by decide +kernel
theorem gd_0_211 : decode gm_c0 211 = .ok (.iconst (-1), 1) := by decide +kernel
theorem gd_0_212 : decode gm_c0 212 = .ok (.putfield 86, 3) := by decide +kernel
theorem gd_0_215 : decode gm_c0 215 = .ok (.return_, 1) := by decide +kernel
theorem gd_1_0 : decode gm_c1 0 = .ok (.aload_n 0, 1) := by decide +kernel
theorem gd_1_1 : decode gm_c1 1 = .ok (.getfield 90, 3) := by decide +kernel
theorem gd_1_4 : decode gm_c1 4 = .ok (.ireturn, 1) := by decide +kernel
theorem gd_2_0 : decode gm_c2 0 = .ok (.iload_n 0, 1) := by decide +kernel
theorem gd_2_1 : decode gm_c2 1 = .ok (.ifCond .lt (12), 3) := by decide +kernel
theorem gd_2_4 : decode gm_c2 4 = .ok (.iload_n 0, 1) := by decide +kernel
theorem gd_2_5 : decode gm_c2 5 = .ok (.iconst 4, 1) := by decide +kernel
theorem gd_2_6 : decode gm_c2 6 = .ok (.if_icmp .ge (7), 3) := by decide +kernel
theorem gd_2_9 : decode gm_c2 9 = .ok (.iconst 1, 1) := by decide +kernel
theorem gd_2_10 : decode gm_c2 10 = .ok (.goto (4), 3) := by decide +kernel
theorem gd_2_13 : decode gm_c2 13 = .ok (.iconst 0, 1) := by decide +kernel
theorem gd_2_14 : decode gm_c2 14 = .ok (.ireturn, 1) := by decide +kernel
theorem gd_3_0 : decode gm_c3 0 = .ok (.iconst 0, 1) := by decide +kernel
theorem gd_3_1 : decode gm_c3 1 = .ok (.istore_n 1, 1) := by decide +kernel
theorem gd_3_2 : decode gm_c3 2 = .ok (.iload_n 1, 1) := by decide +kernel
theorem gd_3_3 : decode gm_c3 3 = .ok (.iconst 4, 1) := by decide +kernel
theorem gd_3_4 : decode gm_c3 4 = .ok (.if_icmp .ge (47), 3) := by decide +kernel
theorem gd_3_7 : decode gm_c3 7 = .ok (.iload_n 0, 1) := by decide +kernel
theorem gd_3_8 : decode gm_c3 8 = .ok (.bipush (8), 2) := by decide +kernel
theorem gd_3_10 : decode gm_c3 10 = .ok (.iload_n 1, 1) := by decide +kernel
theorem gd_3_11 : decode gm_c3 11 = .ok (.imul, 1) := by decide +kernel
theorem gd_3_12 : decode gm_c3 12 = .ok (.ishr, 1) := by decide +kernel
theorem gd_3_13 : decode gm_c3 13 = .ok (.sipush (255), 3) := by decide +kernel
theorem gd_3_16 : decode gm_c3 16 = .ok (.iand, 1) := by decide +kernel
theorem gd_3_17 : decode gm_c3 17 = .ok (.ifCond .eq (34), 3) := by decide +kernel
theorem gd_3_20 : decode gm_c3 20 = .ok (.iload_n 0, 1) := by decide +kernel
theorem gd_3_21 : decode gm_c3 21 = .ok (.bipush (8), 2) := by decide +kernel
theorem gd_3_23 : decode gm_c3 23 = .ok (.iload_n 1, 1) := by decide +kernel
theorem gd_3_24 : decode gm_c3 24 = .ok (.imul, 1) := by decide +kernel
theorem gd_3_25 : decode gm_c3 25 = .ok (.ishr, 1) := by decide +kernel
theorem gd_3_26 : decode gm_c3 26 = .ok (.sipush (255), 3) := by decide +kernel
theorem gd_3_29 : decode gm_c3 29 = .ok (.iand, 1) := by decide +kernel
theorem gd_3_30 : decode gm_c3 30 = .ok (.istore_n 2, 1) := by decide +kernel
theorem gd_3_31 : decode gm_c3 31 = .ok (.iload_n 2, 1) := by decide +kernel
theorem gd_3_32 : decode gm_c3 32 = .ok (.bipush (32), 2) := by decide +kernel
theorem gd_3_34 : decode gm_c3 34 = .ok (.if_icmp .lt (9), 3) := by decide +kernel
theorem gd_3_37 : decode gm_c3 37 = .ok (.iload_n 2, 1) := by decide +kernel
theorem gd_3_38 : decode gm_c3 38 = .ok (.bipush (126), 2) := by decide +kernel
theorem gd_3_40 : decode gm_c3 40 = .ok (.if_icmp .le (5), 3) := by decide +kernel
theorem gd_3_43 : decode gm_c3 43 = .ok (.iconst (-1), 1) := by decide +kernel
theorem gd_3_44 : decode gm_c3 44 = .ok (.ireturn, 1) := by decide +kernel
theorem gd_3_45 : decode gm_c3 45 = .ok (.iinc 1 (1), 3) := by decide +kernel
theorem gd_3_48 : decode gm_c3 48 = .ok (.goto (-46), 3) := by decide +kernel
theorem gd_3_51 : decode gm_c3 51 = .ok (.iload_n 1, 1) := by decide +kernel
theorem gd_3_52 : decode gm_c3 52 = .ok (.ireturn, 1) := by decide +kernel
theorem gd_4_0 : decode gm_c4 0 = .ok (.iload_n 1, 1) := by decide +kernel
theorem gd_4_1 : decode gm_c4 1 = .ok (.invokestatic 93, 3) := by decide +kernel
theorem gd_4_4 : decode gm_c4 4 = .ok (.istore_n 2, 1) := by decide +kernel
theorem gd_4_5 : decode gm_c4 5 = .ok (.aload_n 0, 1) := by decide +kernel
theorem gd_4_6 : decode gm_c4 6 = .ok (.iload_n 2, 1) := by decide +kernel
theorem gd_4_7 : decode gm_c4 7 = .ok (.ifCond .ge (7), 3) := by decide +kernel
theorem gd_4_10 : decode gm_c4 10 = .ok (.iconst 1, 1) := by decide +kernel
theorem gd_4_11 : decode gm_c4 11 = .ok (.goto (4), 3) := by decide +kernel
theorem gd_4_14 : decode gm_c4 14 = .ok (.iconst 0, 1) := by decide +kernel
theorem gd_4_15 : decode gm_c4 15 = .ok (.putfield 90, 3) := by decide +kernel
theorem gd_4_18 : decode gm_c4 18 = .ok (.iload_n 2, 1) := by decide +kernel
theorem gd_4_19 : decode gm_c4 19 = .ok (.ifCond .lt (14), 3) := by decide +kernel
theorem gd_4_22 : decode gm_c4 22 = .ok (.aload_n 0, 1) := by decide +kernel
theorem gd_4_23 : decode gm_c4 23 = .ok (.getfield 97, 3) := by decide +kernel
theorem gd_4_26 : decode gm_c4 26 = .ok (.iload_n 2, 1) := by decide +kernel
theorem gd_4_27 : decode gm_c4 27 = .ok (.iadd, 1) := by decide +kernel
theorem gd_4_28 : decode gm_c4 28 = .ok (.bipush (20), 2) := by decide +kernel
theorem gd_4_30 : decode gm_c4 30 = .ok (.if_icmp .le (5), 3) := by decide +kernel
theorem gd_4_33 : decode gm_c4 33 = .ok (.iconst 0, 1) := by decide +kernel
theorem gd_4_34 : decode gm_c4 34 = .ok (.ireturn, 1) := by decide +kernel
theorem gd_4_35 : decode gm_c4 35 = .ok (.iconst 0, 1) := by decide +kernel
theorem gd_4_36 : decode gm_c4 36 = .ok (.istore_n 3, 1) := by decide +kernel
theorem gd_4_37 : decode gm_c4 37 = .ok (.iload_n 3, 1) := by decide +kernel
theorem gd_4_38 : decode gm_c4 38 = .ok (.iload_n 2, 1) := by decide +kernel
theorem gd_4_39 : decode gm_c4 39 = .ok (.if_icmp .ge (38), 3) := by decide +kernel
theorem gd_4_42 : decode gm_c4 42 = .ok (.aload_n 0, 1) := by decide +kernel
theorem gd_4_43 : decode gm_c4 43 = .ok (.getfield 7, 3) := by decide +kernel
theorem gd_4_46 : decode gm_c4 46 = .ok (.aload_n 0, 1) := by decide +kernel
theorem gd_4_47 : decode gm_c4 47 = .ok (.getfield 97, 3) := by decide +kernel
theorem gd_4_50 : decode gm_c4 50 = .ok (.iload_n 1, 1) := by decide +kernel
theorem gd_4_51 : decode gm_c4 51 = .ok (.bipush (8), 2) := by decide +kernel
theorem gd_4_53 : decode gm_c4 53 = .ok (.iload_n 3, 1) := by decide +kernel
theorem gd_4_54 : decode gm_c4 54 = .ok (.imul, 1) := by decide +kernel
theorem gd_4_55 : decode gm_c4 55 = .ok (.ishr, 1) := by decide +kernel
theorem gd_4_56 : decode gm_c4 56 = .ok (.sipush (255), 3) := by decide +kernel
theorem gd_4_59 : decode gm_c4 59 = .ok (.iand, 1) := by decide +kernel
theorem gd_4_60 : decode gm_c4 60 = .ok (.iastore, 1) := by decide +kernel
theorem gd_4_61 : decode gm_c4 61 = .ok (.aload_n 0, 1) := by decide +kernel
theorem gd_4_62 : decode gm_c4 62 = .ok (.dup, 1) := by decide +kernel
theorem gd_4_63 : decode gm_c4 63 = .ok (.getfield 97, 3) := by decide +kernel
theorem gd_4_66 : decode gm_c4 66 = .ok (.iconst 1, 1) := by decide +kernel
theorem gd_4_67 : decode gm_c4 67 = .ok (.iadd, 1) := by decide +kernel
theorem gd_4_68 : decode gm_c4 68 = .ok (.putfield 97, 3) := by decide +kernel
theorem gd_4_71 : decode gm_c4 71 = .ok (.iinc 3 (1), 3) := by decide +kernel
theorem gd_4_74 : decode gm_c4 74 = .ok (.goto (-37), 3) := by decide +kernel
theorem gd_4_77 : decode gm_c4 77 = .ok (.iconst 1, 1) := by decide +kernel
theorem gd_4_78 : decode gm_c4 78 = .ok (.ireturn, 1) := by decide +kernel
theorem gd_5_0 : decode gm_c5 0 = .ok (.iload_n 1, 1) := by decide +kernel
theorem gd_5_1 : decode gm_c5 1 = .ok (.invokestatic 93, 3) := by decide +kernel
theorem gd_5_4 : decode gm_c5 4 = .ok (.istore_n 2, 1) := by decide +kernel
theorem gd_5_5 : decode gm_c5 5 = .ok (.aload_n 0, 1) := by decide +kernel
theorem gd_5_6 : decode gm_c5 6 = .ok (.iload_n 2, 1) := by decide +kernel
theorem gd_5_7 : decode gm_c5 7 = .ok (.ifCond .ge (7), 3) := by decide +kernel
theorem gd_5_10 : decode gm_c5 10 = .ok (.iconst 1, 1) := by decide +kernel
theorem gd_5_11 : decode gm_c5 11 = .ok (.goto (4), 3) := by decide +kernel
theorem gd_5_14 : decode gm_c5 14 = .ok (.iconst 0, 1) := by decide +kernel
theorem gd_5_15 : decode gm_c5 15 = .ok (.putfield 90, 3) := by decide +kernel
theorem gd_5_18 : decode gm_c5 18 = .ok (.iload_n 2, 1) := by decide +kernel
theorem gd_5_19 : decode gm_c5 19 = .ok (.ifCond .lt (14), 3) := by decide +kernel
theorem gd_5_22 : decode gm_c5 22 = .ok (.aload_n 0, 1) := by decide +kernel
theorem gd_5_23 : decode gm_c5 23 = .ok (.getfield 100, 3) := by decide +kernel
theorem gd_5_26 : decode gm_c5 26 = .ok (.iload_n 2, 1) := by decide +kernel
theorem gd_5_27 : decode gm_c5 27 = .ok (.iadd, 1) := by decide +kernel
theorem gd_5_28 : decode gm_c5 28 = .ok (.bipush (9), 2) := by decide +kernel
theorem gd_5_30 : decode gm_c5 30 = .ok (.if_icmp .le (5), 3) := by decide +kernel
theorem gd_5_33 : decode gm_c5 33 = .ok (.iconst 0, 1) := by decide +kernel
theorem gd_5_34 : decode gm_c5 34 = .ok (.ireturn, 1) := by decide +kernel
theorem gd_5_35 : decode gm_c5 35 = .ok (.iconst 0, 1) := by decide +kernel
theorem gd_5_36 : decode gm_c5 36 = .ok (.istore_n 3, 1) := by decide +kernel
theorem gd_5_37 : decode gm_c5 37 = .ok (.iload_n 3, 1) := by decide +kernel
theorem gd_5_38 : decode gm_c5 38 = .ok (.iload_n 2, 1) := by decide +kernel
theorem gd_5_39 : decode gm_c5 39 = .ok (.if_icmp .ge (38), 3) := by decide +kernel
theorem gd_5_42 : decode gm_c5 42 = .ok (.aload_n 0, 1) := by decide +kernel
theorem gd_5_43 : decode gm_c5 43 = .ok (.getfield 13, 3) := by decide +kernel
theorem gd_5_46 : decode gm_c5 46 = .ok (.aload_n 0, 1) := by decide +kernel
theorem gd_5_47 : decode gm_c5 47 = .ok (.getfield 100, 3) := by decide +kernel
theorem gd_5_50 : decode gm_c5 50 = .ok (.iload_n 1, 1) := by decide +kernel
theorem gd_5_51 : decode gm_c5 51 = .ok (.bipush (8), 2) := by decide +kernel
theorem gd_5_53 : decode gm_c5 53 = .ok (.iload_n 3, 1) := by decide +kernel
theorem gd_5_54 : decode gm_c5 54 = .ok (.imul, 1) := by decide +kernel
theorem gd_5_55 : decode gm_c5 55 = .ok (.ishr, 1) := by decide +kernel
theorem gd_5_56 : decode gm_c5 56 = .ok (.sipush (255), 3) := by decide +kernel
theorem gd_5_59 : decode gm_c5 59 = .ok (.iand, 1) := by decide +kernel
theorem gd_5_60 : decode gm_c5 60 = .ok (.iastore, 1) := by decide +kernel
theorem gd_5_61 : decode gm_c5 61 = .ok (.aload_n 0, 1) := by decide +kernel
theorem gd_5_62 : decode gm_c5 62 = .ok (.dup, 1) := by decide +kernel
theorem gd_5_63 : decode gm_c5 63 = .ok (.getfield 100, 3) := by decide +kernel
theorem gd_5_66 : decode gm_c5 66 = .ok (.iconst 1, 1) := by decide +kernel
theorem gd_5_67 : decode gm_c5 67 = .ok (.iadd, 1) := by decide +kernel
theorem gd_5_68 : decode gm_c5 68 = .ok (.putfield 100, 3) := by decide +kernel
theorem gd_5_71 : decode gm_c5 71 = .ok (.iinc 3 (1), 3) := by decide +kernel
theorem gd_5_74 : decode gm_c5 74 = .ok (.goto (-37), 3) := by decide +kernel
theorem gd_5_77 : decode gm_c5 77 = .ok (.iconst 1, 1) := by decide +kernel
theorem gd_5_78 : decode gm_c5 78 = .ok (.ireturn, 1) := by decide +kernel
theorem gd_6_0 : decode gm_c6 0 = .ok (.aload_n 0, 1) := by decide +kernel
theorem gd_6_1 : decode gm_c6 1 = .ok (.iconst 0, 1) := by decide +kernel
theorem gd_6_2 : decode gm_c6 2 = .ok (.putfield 90, 3) := by decide +kernel
theorem gd_6_5 : decode gm_c6 5 = .ok (.aload_n 0, 1) := by decide +kernel
theorem gd_6_6 : decode gm_c6 6 = .ok (.getfield 100, 3) := by decide +kernel
theorem gd_6_9 : decode gm_c6 9 = .ok (.istore_n 1, 1) := by decide +kernel
theorem gd_6_10 : decode gm_c6 10 = .ok (.aload_n 0, 1) := by decide +kernel
theorem gd_6_11 : decode gm_c6 11 = .ok (.iconst 0, 1) := by decide +kernel
theorem gd_6_12 : decode gm_c6 12 = .ok (.putfield 100, 3) := by decide +kernel
theorem gd_6_15 : decode gm_c6 15 = .ok (.iload_n 1, 1) := by decide +kernel
theorem gd_6_16 : decode gm_c6 16 = .ok (.ireturn, 1) := by decide +kernel
theorem gd_7_0 : decode gm_c7 0 = .ok (.iload_n 1, 1) := by decide +kernel
theorem gd_7_1 : decode gm_c7 1 = .ok (.aload_n 0, 1) := by decide +kernel
theorem gd_7_2 : decode gm_c7 2 = .ok (.getfield 97, 3) := by decide +kernel
theorem gd_7_5 : decode gm_c7 5 = .ok (.if_icmp .ge (12), 3) := by decide +kernel
theorem gd_7_8 : decode gm_c7 8 = .ok (.aload_n 0, 1) := by decide +kernel
theorem gd_7_9 : decode gm_c7 9 = .ok (.getfield 7, 3) := by decide +kernel
theorem gd_7_12 : decode gm_c7 12 = .ok (.iload_n 1, 1) := by decide +kernel
theorem gd_7_13 : decode gm_c7 13 = .ok (.iaload, 1) := by decide +kernel
theorem gd_7_14 : decode gm_c7 14 = .ok (.goto (4), 3) := by decide +kernel
theorem gd_7_17 : decode gm_c7 17 = .ok (.iconst 0, 1) := by decide +kernel
theorem gd_7_18 : decode gm_c7 18 = .ok (.ireturn, 1) := by decide +kernel
theorem gd_8_0 : decode gm_c8 0 = .ok (.iload_n 0, 1) := by decide +kernel
theorem gd_8_1 : decode gm_c8 1 = .ok (.bipush (97), 2) := by decide +kernel
theorem gd_8_3 : decode gm_c8 3 = .ok (.if_icmp .lt (9), 3) := by decide +kernel
theorem gd_8_6 : decode gm_c8 6 = .ok (.iload_n 0, 1) := by decide +kernel
theorem gd_8_7 : decode gm_c8 7 = .ok (.bipush (122), 2) := by decide +kernel
theorem gd_8_9 : decode gm_c8 9 = .ok (.if_icmp .le (15), 3) := by decide +kernel
theorem gd_8_12 : decode gm_c8 12 = .ok (.iload_n 0, 1) := by decide +kernel
theorem gd_8_13 : decode gm_c8 13 = .ok (.bipush (48), 2) := by decide +kernel
theorem gd_8_15 : decode gm_c8 15 = .ok (.if_icmp .lt (13), 3) := by decide +kernel
theorem gd_8_18 : decode gm_c8 18 = .ok (.iload_n 0, 1) := by decide +kernel
theorem gd_8_19 : decode gm_c8 19 = .ok (.bipush (57), 2) := by decide +kernel
theorem gd_8_21 : decode gm_c8 21 = .ok (.if_icmp .gt (7), 3) := by decide +kernel
theorem gd_8_24 : decode gm_c8 24 = .ok (.iconst 1, 1) := by decide +kernel
theorem gd_8_25 : decode gm_c8 25 = .ok (.goto (4), 3) := by decide +kernel
theorem gd_8_28 : decode gm_c8 28 = .ok (.iconst 0, 1) := by decide +kernel
theorem gd_8_29 : decode gm_c8 29 = .ok (.ireturn, 1) := by decide +kernel
theorem gd_9_0 : decode gm_c9 0 = .ok (.sipush (160), 3) := by decide +kernel
theorem gd_9_3 : decode gm_c9 3 = .ok (.aload_n 0, 1) := by decide +kernel
theorem gd_9_4 : decode gm_c9 4 = .ok (.getfield 26, 3) := by decide +kernel
theorem gd_9_7 : decode gm_c9 7 = .ok (.iconst 4, 1) := by decide +kernel
theorem gd_9_8 : decode gm_c9 8 = .ok (.iaload, 1) := by decide +kernel
theorem gd_9_9 : decode gm_c9 9 = .ok (.iadd, 1) := by decide +kernel
theorem gd_9_10 : decode gm_c9 10 = .ok (.istore_n 3, 1) := by decide +kernel
theorem gd_9_11 : decode gm_c9 11 = .ok (.aload_n 0, 1) := by decide +kernel
theorem gd_9_12 : decode gm_c9 12 = .ok (.getfield 26, 3) := by decide +kernel
theorem gd_9_15 : decode gm_c9 15 = .ok (.iconst 4, 1) := by decide +kernel
theorem gd_9_16 : decode gm_c9 16 = .ok (.dup2, 1) := by decide +kernel
theorem gd_9_17 : decode gm_c9 17 = .ok (.iaload, 1) := by decide +kernel
theorem gd_9_18 : decode gm_c9 18 = .ok (.iconst 1, 1) := by decide +kernel
theorem gd_9_19 : decode gm_c9 19 = .ok (.iadd, 1) := by decide +kernel
theorem gd_9_20 : decode gm_c9 20 = .ok (.iastore, 1) := by decide +kernel
theorem gd_9_21 : decode gm_c9 21 = .ok (.aload_n 0, 1) := by decide +kernel
theorem gd_9_22 : decode gm_c9 22 = .ok (.getfield 29, 3) := by decide +kernel
theorem gd_9_25 : decode gm_c9 25 = .ok (.iload_n 3, 1) := by decide +kernel
theorem gd_9_26 : decode gm_c9 26 = .ok (.iload_n 1, 1) := by decide +kernel
theorem gd_9_27 : decode gm_c9 27 = .ok (.iastore, 1) := by decide +kernel
theorem gd_9_28 : decode gm_c9 28 = .ok (.aload_n 0, 1) := by decide +kernel
theorem gd_9_29 : decode gm_c9 29 = .ok (.getfield 32, 3) := by decide +kernel
theorem gd_9_32 : decode gm_c9 32 = .ok (.iload_n 3, 1) := by decide +kernel
theorem gd_9_33 : decode gm_c9 33 = .ok (.iload_n 2, 1) := by decide +kernel
theorem gd_9_34 : decode gm_c9 34 = .ok (.iastore, 1) := by decide +kernel
theorem gd_9_35 : decode gm_c9 35 = .ok (.aload_n 0, 1) := by decide +kernel
theorem gd_9_36 : decode gm_c9 36 = .ok (.getfield 35, 3) := by decide +kernel
theorem gd_9_39 : decode gm_c9 39 = .ok (.iload_n 3, 1) := by decide +kernel
theorem gd_9_40 : decode gm_c9 40 = .ok (.iconst 0, 1) := by decide +kernel
theorem gd_9_41 : decode gm_c9 41 = .ok (.iastore, 1) := by decide +kernel
theorem gd_9_42 : decode gm_c9 42 = .ok (.aload_n 0, 1) := by decide +kernel
theorem gd_9_43 : decode gm_c9 43 = .ok (.getfield 38, 3) := by decide +kernel
theorem gd_9_46 : decode gm_c9 46 = .ok (.iload_n 3, 1) := by decide +kernel
theorem gd_9_47 : decode gm_c9 47 = .ok (.iconst (-1), 1) := by decide +kernel
theorem gd_9_48 : decode gm_c9 48 = .ok (.iastore, 1) := by decide +kernel
theorem gd_9_49 : decode gm_c9 49 = .ok (.aload_n 0, 1) := by decide +kernel
theorem gd_9_50 : decode gm_c9 50 = .ok (.getfield 41, 3) := by decide +kernel
theorem gd_9_53 : decode gm_c9 53 = .ok (.iload_n 3, 1) := by decide +kernel
theorem gd_9_54 : decode gm_c9 54 = .ok (.iload_n 2, 1) := by decide +kernel
theorem gd_9_55 : decode gm_c9 55 = .ok (.iastore, 1) := by decide +kernel
theorem gd_9_56 : decode gm_c9 56 = .ok (.iload_n 3, 1) := by decide +kernel
theorem gd_9_57 : decode gm_c9 57 = .ok (.ireturn, 1) := by decide +kernel
theorem gd_10_0 : decode gm_c10 0 = .ok (.aload_n 0, 1) := by decide +kernel
theorem gd_10_1 : decode gm_c10 1 = .ok (.getfield 32, 3) := by decide +kernel
theorem gd_10_4 : decode gm_c10 4 = .ok (.iload_n 1, 1) := by decide +kernel
theorem gd_10_5 : decode gm_c10 5 = .ok (.iaload, 1) := by decide +kernel
theorem gd_10_6 : decode gm_c10 6 = .ok (.ifCond .ge (13), 3) := by decide +kernel
theorem gd_10_9 : decode gm_c10 9 = .ok (.aload_n 0, 1) := by decide +kernel
theorem gd_10_10 : decode gm_c10 10 = .ok (.getfield 32, 3) := by decide +kernel
theorem gd_10_13 : decode gm_c10 13 = .ok (.iload_n 1, 1) := by decide +kernel
theorem gd_10_14 : decode gm_c10 14 = .ok (.iload_n 2, 1) := by decide +kernel
theorem gd_10_15 : decode gm_c10 15 = .ok (.iastore, 1) := by decide +kernel
theorem gd_10_16 : decode gm_c10 16 = .ok (.goto (15), 3) := by decide +kernel
theorem gd_10_19 : decode gm_c10 19 = .ok (.aload_n 0, 1) := by decide +kernel
theorem gd_10_20 : decode gm_c10 20 = .ok (.getfield 38, 3) := by decide +kernel
theorem gd_10_23 : decode gm_c10 23 = .ok (.aload_n 0, 1) := by decide +kernel
theorem gd_10_24 : decode gm_c10 24 = .ok (.getfield 41, 3) := by decide +kernel
theorem gd_10_27 : decode gm_c10 27 = .ok (.iload_n 1, 1) := by decide +kernel
theorem gd_10_28 : decode gm_c10 28 = .ok (.iaload, 1) := by decide +kernel
theorem gd_10_29 : decode gm_c10 29 = .ok (.iload_n 2, 1) := by decide +kernel
theorem gd_10_30 : decode gm_c10 30 = .ok (.iastore, 1) := by decide +kernel
theorem gd_10_31 : decode gm_c10 31 = .ok (.aload_n 0, 1) := by decide +kernel
theorem gd_10_32 : decode gm_c10 32 = .ok (.getfield 41, 3) := by decide +kernel
theorem gd_10_35 : decode gm_c10 35 = .ok (.iload_n 1, 1) := by decide +kernel
theorem gd_10_36 : decode gm_c10 36 = .ok (.iload_n 2, 1) := by decide +kernel
theorem gd_10_37 : decode gm_c10 37 = .ok (.iastore, 1) := by decide +kernel
theorem gd_10_38 : decode gm_c10 38 = .ok (.return_, 1) := by decide +kernel
theorem gd_11_0 : decode gm_c11 0 = .ok (.aload_n 0, 1) := by decide +kernel
theorem gd_11_1 : decode gm_c11 1 = .ok (.bipush (9), 2) := by decide +kernel
theorem gd_11_3 : decode gm_c11 3 = .ok (.iconst (-1), 1) := by decide +kernel
theorem gd_11_4 : decode gm_c11 4 = .ok (.invokevirtual 103, 3) := by decide +kernel
theorem gd_11_7 : decode gm_c11 7 = .ok (.istore_n 1, 1) := by decide +kernel
theorem gd_11_8 : decode gm_c11 8 = .ok (.aload_n 0, 1) := by decide +kernel
theorem gd_11_9 : decode gm_c11 9 = .ok (.getfield 56, 3) := by decide +kernel
theorem gd_11_12 : decode gm_c11 12 = .ok (.aload_n 0, 1) := by decide +kernel
theorem gd_11_13 : decode gm_c11 13 = .ok (.getfield 107, 3) := by decide +kernel
theorem gd_11_16 : decode gm_c11 16 = .ok (.iload_n 1, 1) := by decide +kernel
theorem gd_11_17 : decode gm_c11 17 = .ok (.iastore, 1) := by decide +kernel
theorem gd_11_18 : decode gm_c11 18 = .ok (.aload_n 0, 1) := by decide +kernel
theorem gd_11_19 : decode gm_c11 19 = .ok (.aload_n 0, 1) := by decide +kernel
theorem gd_11_20 : decode gm_c11 20 = .ok (.getfield 53, 3) := by decide +kernel
theorem gd_11_23 : decode gm_c11 23 = .ok (.aload_n 0, 1) := by decide +kernel
theorem gd_11_24 : decode gm_c11 24 = .ok (.getfield 107, 3) := by decide +kernel
theorem gd_11_27 : decode gm_c11 27 = .ok (.iaload, 1) := by decide +kernel
theorem gd_11_28 : decode gm_c11 28 = .ok (.iload_n 1, 1) := by decide +kernel
theorem gd_11_29 : decode gm_c11 29 = .ok (.invokevirtual 110, 3) := by decide +kernel
theorem gd_11_32 : decode gm_c11 32 = .ok (.return_, 1) := by decide +kernel
theorem gd_12_0 : decode gm_c12 0 = .ok (.aload_n 0, 1) := by decide +kernel
theorem gd_12_1 : decode gm_c12 1 = .ok (.dup, 1) := by decide +kernel
theorem gd_12_2 : decode gm_c12 2 = .ok (.getfield 107, 3) := by decide +kernel
theorem gd_12_5 : decode gm_c12 5 = .ok (.iconst 1, 1) := by decide +kernel
theorem gd_12_6 : decode gm_c12 6 = .ok (.iadd, 1) := by decide +kernel
theorem gd_12_7 : decode gm_c12 7 = .ok (.putfield 107, 3) := by decide +kernel
theorem gd_12_10 : decode gm_c12 10 = .ok (.aload_n 0, 1) := by decide +kernel
theorem gd_12_11 : decode gm_c12 11 = .ok (.getfield 59, 3) := by decide +kernel
theorem gd_12_14 : decode gm_c12 14 = .ok (.aload_n 0, 1) := by decide +kernel
theorem gd_12_15 : decode gm_c12 15 = .ok (.getfield 107, 3) := by decide +kernel
theorem gd_12_18 : decode gm_c12 18 = .ok (.iload_n 1, 1) := by decide +kernel
theorem gd_12_19 : decode gm_c12 19 = .ok (.iastore, 1) := by decide +kernel
theorem gd_12_20 : decode gm_c12 20 = .ok (.aload_n 0, 1) := by decide +kernel
theorem gd_12_21 : decode gm_c12 21 = .ok (.getfield 53, 3) := by decide +kernel
theorem gd_12_24 : decode gm_c12 24 = .ok (.aload_n 0, 1) := by decide +kernel
theorem gd_12_25 : decode gm_c12 25 = .ok (.getfield 107, 3) := by decide +kernel
theorem gd_12_28 : decode gm_c12 28 = .ok (.aload_n 0, 1) := by decide +kernel
theorem gd_12_29 : decode gm_c12 29 = .ok (.bipush (10), 2) := by decide +kernel
theorem gd_12_31 : decode gm_c12 31 = .ok (.iconst (-1), 1) := by decide +kernel
theorem gd_12_32 : decode gm_c12 32 = .ok (.invokevirtual 103, 3) := by decide +kernel
theorem gd_12_35 : decode gm_c12 35 = .ok (.iastore, 1) := by decide +kernel
theorem gd_12_36 : decode gm_c12 36 = .ok (.aload_n 0, 1) := by decide +kernel
theorem gd_12_37 : decode gm_c12 37 = .ok (.invokevirtual 114, 3) := by decide +kernel
theorem gd_12_40 : decode gm_c12 40 = .ok (.return_, 1) := by decide +kernel
theorem gd_13_0 : decode gm_c13 0 = .ok (.aload_n 0, 1) := by decide +kernel
theorem gd_13_1 : decode gm_c13 1 = .ok (.iconst 0, 1) := by decide +kernel
theorem gd_13_2 : decode gm_c13 2 = .ok (.iload_n 1, 1) := by decide +kernel
theorem gd_13_3 : decode gm_c13 3 = .ok (.invokevirtual 103, 3) := by decide +kernel
theorem gd_13_6 : decode gm_c13 6 = .ok (.istore_n 3, 1) := by decide +kernel
theorem gd_13_7 : decode gm_c13 7 = .ok (.aload_n 0, 1) := by decide +kernel
theorem gd_13_8 : decode gm_c13 8 = .ok (.getfield 35, 3) := by decide +kernel
theorem gd_13_11 : decode gm_c13 11 = .ok (.iload_n 3, 1) := by decide +kernel
theorem gd_13_12 : decode gm_c13 12 = .ok (.iload_n 2, 1) := by decide +kernel
theorem gd_13_13 : decode gm_c13 13 = .ok (.iastore, 1) := by decide +kernel
theorem gd_13_14 : decode gm_c13 14 = .ok (.iload_n 3, 1) := by decide +kernel
theorem gd_13_15 : decode gm_c13 15 = .ok (.ireturn, 1) := by decide +kernel
theorem gd_14_0 : decode gm_c14 0 = .ok (.aload_n 0, 1) := by decide +kernel
theorem gd_14_1 : decode gm_c14 1 = .ok (.aload_n 0, 1) := by decide +kernel
theorem gd_14_2 : decode gm_c14 2 = .ok (.getfield 117, 3) := by decide +kernel
theorem gd_14_5 : decode gm_c14 5 = .ok (.invokevirtual 120, 3) := by decide +kernel
theorem gd_14_8 : decode gm_c14 8 = .ok (.istore_n 1, 1) := by decide +kernel
theorem gd_14_9 : decode gm_c14 9 = .ok (.iload_n 1, 1) := by decide +kernel
theorem gd_14_10 : decode gm_c14 10 = .ok (.invokestatic 123, 3) := by decide +kernel
theorem gd_14_13 : decode gm_c14 13 = .ok (.ifCond .eq (20), 3) := by decide +kernel
theorem gd_14_16 : decode gm_c14 16 = .ok (.aload_n 0, 1) := by decide +kernel
theorem gd_14_17 : decode gm_c14 17 = .ok (.dup, 1) := by decide +kernel
theorem gd_14_18 : decode gm_c14 18 = .ok (.getfield 117, 3) := by decide +kernel
theorem gd_14_21 : decode gm_c14 21 = .ok (.iconst 1, 1) := by decide +kernel
theorem gd_14_22 : decode gm_c14 22 = .ok (.iadd, 1) := by decide +kernel
theorem gd_14_23 : decode gm_c14 23 = .ok (.putfield 117, 3) := by decide +kernel
theorem gd_14_26 : decode gm_c14 26 = .ok (.aload_n 0, 1) := by decide +kernel
theorem gd_14_27 : decode gm_c14 27 = .ok (.iload_n 1, 1) := by decide +kernel
theorem gd_14_28 : decode gm_c14 28 = .ok (.iload_n 1, 1) := by decide +kernel
theorem gd_14_29 : decode gm_c14 29 = .ok (.invokevirtual 127, 3) := by decide +kernel
theorem gd_14_32 : decode gm_c14 32 = .ok (.ireturn, 1) := by decide +kernel
theorem gd_14_33 : decode gm_c14 33 = .ok (.iload_n 1, 1) := by decide +kernel
theorem gd_14_34 : decode gm_c14 34 = .ok (.bipush (46), 2) := by decide +kernel
theorem gd_14_36 : decode gm_c14 36 = .ok (.if_icmp .ne (21), 3) := by decide +kernel
theorem gd_14_39 : decode gm_c14 39 = .ok (.aload_n 0, 1) := by decide +kernel
theorem gd_14_40 : decode gm_c14 40 = .ok (.dup, 1) := by decide +kernel
theorem gd_14_41 : decode gm_c14 41 = .ok (.getfield 117, 3) := by decide +kernel
theorem gd_14_44 : decode gm_c14 44 = .ok (.iconst 1, 1) := by decide +kernel
theorem gd_14_45 : decode gm_c14 45 = .ok (.iadd, 1) := by decide +kernel
theorem gd_14_46 : decode gm_c14 46 = .ok (.putfield 117, 3) := by decide +kernel
theorem gd_14_49 : decode gm_c14 49 = .ok (.aload_n 0, 1) := by decide +kernel
theorem gd_14_50 : decode gm_c14 50 = .ok (.iconst 0, 1) := by decide +kernel
theorem gd_14_51 : decode gm_c14 51 = .ok (.bipush (127), 2) := by decide +kernel
theorem gd_14_53 : decode gm_c14 53 = .ok (.invokevirtual 127, 3) := by decide +kernel
theorem gd_14_56 : decode gm_c14 56 = .ok (.ireturn, 1) := by decide +kernel
theorem gd_14_57 : decode gm_c14 57 = .ok (.iload_n 1, 1) := by decide +kernel
theorem gd_14_58 : decode gm_c14 58 = .ok (.bipush (65), 2) := by decide +kernel
theorem gd_14_60 : decode gm_c14 60 = .ok (.if_icmp .lt (29), 3) := by decide +kernel
theorem gd_14_63 : decode gm_c14 63 = .ok (.iload_n 1, 1) := by decide +kernel
theorem gd_14_64 : decode gm_c14 64 = .ok (.bipush (68), 2) := by decide +kernel
theorem gd_14_66 : decode gm_c14 66 = .ok (.if_icmp .gt (23), 3) := by decide +kernel
theorem gd_14_69 : decode gm_c14 69 = .ok (.aload_n 0, 1) := by decide +kernel
theorem gd_14_70 : decode gm_c14 70 = .ok (.dup, 1) := by decide +kernel
theorem gd_14_71 : decode gm_c14 71 = .ok (.getfield 117, 3) := by decide +kernel
theorem gd_14_74 : decode gm_c14 74 = .ok (.iconst 1, 1) := by decide +kernel
theorem gd_14_75 : decode gm_c14 75 = .ok (.iadd, 1) := by decide +kernel
theorem gd_14_76 : decode gm_c14 76 = .ok (.putfield 117, 3) := by decide +kernel
theorem gd_14_79 : decode gm_c14 79 = .ok (.aload_n 0, 1) := by decide +kernel
theorem gd_14_80 : decode gm_c14 80 = .ok (.iconst 1, 1) := by decide +kernel
theorem gd_14_81 : decode gm_c14 81 = .ok (.iload_n 1, 1) := by decide +kernel
theorem gd_14_82 : decode gm_c14 82 = .ok (.bipush (65), 2) := by decide +kernel
theorem gd_14_84 : decode gm_c14 84 = .ok (.isub, 1) := by decide +kernel
theorem gd_14_85 : decode gm_c14 85 = .ok (.invokevirtual 103, 3) := by decide +kernel
theorem gd_14_88 : decode gm_c14 88 = .ok (.ireturn, 1) := by decide +kernel
theorem gd_14_89 : decode gm_c14 89 = .ok (.iload_n 1, 1) := by decide +kernel
theorem gd_14_90 : decode gm_c14 90 = .ok (.bipush (123), 2) := by decide +kernel
theorem gd_14_92 : decode gm_c14 92 = .ok (.if_icmp .ne (44), 3) := by decide +kernel
theorem gd_14_95 : decode gm_c14 95 = .ok (.aload_n 0, 1) := by decide +kernel
theorem gd_14_96 : decode gm_c14 96 = .ok (.aload_n 0, 1) := by decide +kernel
theorem gd_14_97 : decode gm_c14 97 = .ok (.getfield 117, 3) := by decide +kernel
theorem gd_14_100 : decode gm_c14 100 = .ok (.iconst 1, 1) := by decide +kernel
theorem gd_14_101 : decode gm_c14 101 = .ok (.iadd, 1) := by decide +kernel
theorem gd_14_102 : decode gm_c14 102 = .ok (.invokevirtual 120, 3) := by decide +kernel
theorem gd_14_105 : decode gm_c14 105 = .ok (.bipush (125), 2) := by decide +kernel
theorem gd_14_107 : decode gm_c14 107 = .ok (.if_icmp .ne (29), 3) := by decide +kernel
theorem gd_14_110 : decode gm_c14 110 = .ok (.aload_n 0, 1) := by decide +kernel
theorem gd_14_111 : decode gm_c14 111 = .ok (.getfield 107, 3) := by decide +kernel
theorem gd_14_114 : decode gm_c14 114 = .ok (.bipush (6), 2) := by decide +kernel
theorem gd_14_116 : decode gm_c14 116 = .ok (.if_icmp .ge (20), 3) := by decide +kernel
theorem gd_14_119 : decode gm_c14 119 = .ok (.aload_n 0, 1) := by decide +kernel
theorem gd_14_120 : decode gm_c14 120 = .ok (.aload_n 0, 1) := by decide +kernel
theorem gd_14_121 : decode gm_c14 121 = .ok (.getfield 117, 3) := by decide +kernel
theorem gd_14_124 : decode gm_c14 124 = .ok (.iconst 2, 1) := by decide +kernel
theorem gd_14_125 : decode gm_c14 125 = .ok (.iadd, 1) := by decide +kernel
theorem gd_14_126 : decode gm_c14 126 = .ok (.putfield 117, 3) := by decide +kernel
theorem gd_14_129 : decode gm_c14 129 = .ok (.aload_n 0, 1) := by decide +kernel
theorem gd_14_130 : decode gm_c14 130 = .ok (.iconst 2, 1) := by decide +kernel
theorem gd_14_131 : decode gm_c14 131 = .ok (.iconst 0, 1) := by decide +kernel
theorem gd_14_132 : decode gm_c14 132 = .ok (.invokevirtual 103, 3) := by decide +kernel
theorem gd_14_135 : decode gm_c14 135 = .ok (.ireturn, 1) := by decide +kernel
theorem gd_14_136 : decode gm_c14 136 = .ok (.iload_n 1, 1) := by decide +kernel
theorem gd_14_137 : decode gm_c14 137 = .ok (.bipush (91), 2) := by decide +kernel
theorem gd_14_139 : decode gm_c14 139 = .ok (.if_icmp .ne (102), 3) := by decide +kernel
theorem gd_14_142 : decode gm_c14 142 = .ok (.aload_n 0, 1) := by decide +kernel
theorem gd_14_143 : decode gm_c14 143 = .ok (.aload_n 0, 1) := by decide +kernel
theorem gd_14_144 : decode gm_c14 144 = .ok (.getfield 117, 3) := by decide +kernel
theorem gd_14_147 : decode gm_c14 147 = .ok (.iconst 1, 1) := by decide +kernel
theorem gd_14_148 : decode gm_c14 148 = .ok (.iadd, 1) := by decide +kernel
theorem gd_14_149 : decode gm_c14 149 = .ok (.invokevirtual 120, 3) := by decide +kernel
theorem gd_14_152 : decode gm_c14 152 = .ok (.invokestatic 123, 3) := by decide +kernel
theorem gd_14_155 : decode gm_c14 155 = .ok (.ifCond .eq (86), 3) := by decide +kernel
theorem gd_14_158 : decode gm_c14 158 = .ok (.aload_n 0, 1) := by decide +kernel
theorem gd_14_159 : decode gm_c14 159 = .ok (.aload_n 0, 1) := by decide +kernel
theorem gd_14_160 : decode gm_c14 160 = .ok (.getfield 117, 3) := by decide +kernel
theorem gd_14_163 : decode gm_c14 163 = .ok (.iconst 2, 1) := by decide +kernel
theorem gd_14_164 : decode gm_c14 164 = .ok (.iadd, 1) := by decide +kernel
theorem gd_14_165 : decode gm_c14 165 = .ok (.invokevirtual 120, 3) := by decide +kernel
theorem gd_14_168 : decode gm_c14 168 = .ok (.bipush (45), 2) := by decide +kernel
theorem gd_14_170 : decode gm_c14 170 = .ok (.if_icmp .ne (71), 3) := by decide +kernel
theorem gd_14_173 : decode gm_c14 173 = .ok (.aload_n 0, 1) := by decide +kernel
theorem gd_14_174 : decode gm_c14 174 = .ok (.aload_n 0, 1) := by decide +kernel
theorem gd_14_175 : decode gm_c14 175 = .ok (.getfield 117, 3) := by decide +kernel
theorem gd_14_178 : decode gm_c14 178 = .ok (.iconst 3, 1) := by decide +kernel
theorem gd_14_179 : decode gm_c14 179 = .ok (.iadd, 1) := by decide +kernel
theorem gd_14_180 : decode gm_c14 180 = .ok (.invokevirtual 120, 3) := by decide +kernel
theorem gd_14_183 : decode gm_c14 183 = .ok (.invokestatic 123, 3) := by decide +kernel
theorem gd_14_186 : decode gm_c14 186 = .ok (.ifCond .eq (55), 3) := by decide +kernel
theorem gd_14_189 : decode gm_c14 189 = .ok (.aload_n 0, 1) := by decide +kernel
theorem gd_14_190 : decode gm_c14 190 = .ok (.aload_n 0, 1) := by decide +kernel
theorem gd_14_191 : decode gm_c14 191 = .ok (.getfield 117, 3) := by decide +kernel
theorem gd_14_194 : decode gm_c14 194 = .ok (.iconst 4, 1) := by decide +kernel
theorem gd_14_195 : decode gm_c14 195 = .ok (.iadd, 1) := by decide +kernel
theorem gd_14_196 : decode gm_c14 196 = .ok (.invokevirtual 120, 3) := by decide +kernel
theorem gd_14_199 : decode gm_c14 199 = .ok (.bipush (93), 2) := by decide +kernel
theorem gd_14_201 : decode gm_c14 201 = .ok (.if_icmp .ne (40), 3) := by decide +kernel
theorem gd_14_204 : decode gm_c14 204 = .ok (.aload_n 0, 1) := by decide +kernel
theorem gd_14_205 : decode gm_c14 205 = .ok (.aload_n 0, 1) := by decide +kernel
theorem gd_14_206 : decode gm_c14 206 = .ok (.aload_n 0, 1) := by decide +kernel
theorem gd_14_207 : decode gm_c14 207 = .ok (.getfield 117, 3) := by decide +kernel
theorem gd_14_210 : decode gm_c14 210 = .ok (.iconst 1, 1) := by decide +kernel
theorem gd_14_211 : decode gm_c14 211 = .ok (.iadd, 1) := by decide +kernel
theorem gd_14_212 : decode gm_c14 212 = .ok (.invokevirtual 120, 3) := by decide +kernel
theorem gd_14_215 : decode gm_c14 215 = .ok (.aload_n 0, 1) := by decide +kernel
theorem gd_14_216 : decode gm_c14 216 = .ok (.aload_n 0, 1) := by decide +kernel
theorem gd_14_217 : decode gm_c14 217 = .ok (.getfield 117, 3) := by decide +kernel
theorem gd_14_220 : decode gm_c14 220 = .ok (.iconst 3, 1) := by decide +kernel
theorem gd_14_221 : decode gm_c14 221 = .ok (.iadd, 1) := by decide +kernel
theorem gd_14_222 : decode gm_c14 222 = .ok (.invokevirtual 120, 3) := by decide +kernel
theorem gd_14_225 : decode gm_c14 225 = .ok (.invokevirtual 127, 3) := by decide +kernel
theorem gd_14_228 : decode gm_c14 228 = .ok (.istore_n 2, 1) := by decide +kernel
theorem gd_14_229 : decode gm_c14 229 = .ok (.aload_n 0, 1) := by decide +kernel
theorem gd_14_230 : decode gm_c14 230 = .ok (.aload_n 0, 1) := by decide +kernel
theorem gd_14_231 : decode gm_c14 231 = .ok (.getfield 117, 3) := by decide +kernel
theorem gd_14_234 : decode gm_c14 234 = .ok (.iconst 5, 1) := by decide +kernel
theorem gd_14_235 : decode gm_c14 235 = .ok (.iadd, 1) := by decide +kernel
theorem gd_14_236 : decode gm_c14 236 = .ok (.putfield 117, 3) := by decide +kernel
theorem gd_14_239 : decode gm_c14 239 = .ok (.iload_n 2, 1) := by decide +kernel
theorem gd_14_240 : decode gm_c14 240 = .ok (.ireturn, 1) := by decide +kernel
theorem gd_14_241 : decode gm_c14 241 = .ok (.iconst (-1), 1) := by decide +kernel
theorem gd_14_242 : decode gm_c14 242 = .ok (.ireturn, 1) := by decide +kernel
theorem gd_15_0 : decode gm_c15 0 = .ok (.iload_n 1, 1) := by decide +kernel
theorem gd_15_1 : decode gm_c15 1 = .ok (.istore_n 2, 1) := by decide +kernel
theorem gd_15_2 : decode gm_c15 2 = .ok (.aload_n 0, 1) := by decide +kernel
theorem gd_15_3 : decode gm_c15 3 = .ok (.aload_n 0, 1) := by decide +kernel
theorem gd_15_4 : decode gm_c15 4 = .ok (.getfield 117, 3) := by decide +kernel
theorem gd_15_7 : decode gm_c15 7 = .ok (.invokevirtual 120, 3) := by decide +kernel
theorem gd_15_10 : decode gm_c15 10 = .ok (.istore_n 3, 1) := by decide +kernel
theorem gd_15_11 : decode gm_c15 11 = .ok (.iload_n 3, 1) := by decide +kernel
theorem gd_15_12 : decode gm_c15 12 = .ok (.bipush (42), 2) := by decide +kernel
theorem gd_15_14 : decode gm_c15 14 = .ok (.if_icmp .eq (15), 3) := by decide +kernel
theorem gd_15_17 : decode gm_c15 17 = .ok (.iload_n 3, 1) := by decide +kernel
theorem gd_15_18 : decode gm_c15 18 = .ok (.bipush (43), 2) := by decide +kernel
theorem gd_15_20 : decode gm_c15 20 = .ok (.if_icmp .eq (9), 3) := by decide +kernel
theorem gd_15_23 : decode gm_c15 23 = .ok (.iload_n 3, 1) := by decide +kernel
theorem gd_15_24 : decode gm_c15 24 = .ok (.bipush (63), 2) := by decide +kernel
theorem gd_15_26 : decode gm_c15 26 = .ok (.if_icmp .ne (41), 3) := by decide +kernel
theorem gd_15_29 : decode gm_c15 29 = .ok (.aload_n 0, 1) := by decide +kernel
theorem gd_15_30 : decode gm_c15 30 = .ok (.iload_n 3, 1) := by decide +kernel
theorem gd_15_31 : decode gm_c15 31 = .ok (.bipush (42), 2) := by decide +kernel
theorem gd_15_33 : decode gm_c15 33 = .ok (.if_icmp .ne (7), 3) := by decide +kernel
theorem gd_15_36 : decode gm_c15 36 = .ok (.iconst 4, 1) := by decide +kernel
theorem gd_15_37 : decode gm_c15 37 = .ok (.goto (15), 3) := by decide +kernel
theorem gd_15_40 : decode gm_c15 40 = .ok (.iload_n 3, 1) := by decide +kernel
theorem gd_15_41 : decode gm_c15 41 = .ok (.bipush (43), 2) := by decide +kernel
theorem gd_15_43 : decode gm_c15 43 = .ok (.if_icmp .ne (7), 3) := by decide +kernel
theorem gd_15_46 : decode gm_c15 46 = .ok (.iconst 5, 1) := by decide +kernel
theorem gd_15_47 : decode gm_c15 47 = .ok (.goto (5), 3) := by decide +kernel
theorem gd_15_50 : decode gm_c15 50 = .ok (.bipush (6), 2) := by decide +kernel
theorem gd_15_52 : decode gm_c15 52 = .ok (.iload_n 2, 1) := by decide +kernel
theorem gd_15_53 : decode gm_c15 53 = .ok (.invokevirtual 103, 3) := by decide +kernel
theorem gd_15_56 : decode gm_c15 56 = .ok (.istore_n 2, 1) := by decide +kernel
theorem gd_15_57 : decode gm_c15 57 = .ok (.aload_n 0, 1) := by decide +kernel
theorem gd_15_58 : decode gm_c15 58 = .ok (.dup, 1) := by decide +kernel
theorem gd_15_59 : decode gm_c15 59 = .ok (.getfield 117, 3) := by decide +kernel
theorem gd_15_62 : decode gm_c15 62 = .ok (.iconst 1, 1) := by decide +kernel
theorem gd_15_63 : decode gm_c15 63 = .ok (.iadd, 1) := by decide +kernel
theorem gd_15_64 : decode gm_c15 64 = .ok (.putfield 117, 3) := by decide +kernel
theorem gd_15_67 : decode gm_c15 67 = .ok (.aload_n 0, 1) := by decide +kernel
theorem gd_15_68 : decode gm_c15 68 = .ok (.getfield 65, 3) := by decide +kernel
theorem gd_15_71 : decode gm_c15 71 = .ok (.aload_n 0, 1) := by decide +kernel
theorem gd_15_72 : decode gm_c15 72 = .ok (.getfield 107, 3) := by decide +kernel
theorem gd_15_75 : decode gm_c15 75 = .ok (.iaload, 1) := by decide +kernel
theorem gd_15_76 : decode gm_c15 76 = .ok (.iconst 1, 1) := by decide +kernel
theorem gd_15_77 : decode gm_c15 77 = .ok (.isub, 1) := by decide +kernel
theorem gd_15_78 : decode gm_c15 78 = .ok (.istore 4, 2) := by decide +kernel
theorem gd_15_80 : decode gm_c15 80 = .ok (.iload 4, 2) := by decide +kernel
theorem gd_15_82 : decode gm_c15 82 = .ok (.aload_n 0, 1) := by decide +kernel
theorem gd_15_83 : decode gm_c15 83 = .ok (.getfield 62, 3) := by decide +kernel
theorem gd_15_86 : decode gm_c15 86 = .ok (.aload_n 0, 1) := by decide +kernel
theorem gd_15_87 : decode gm_c15 87 = .ok (.getfield 107, 3) := by decide +kernel
theorem gd_15_90 : decode gm_c15 90 = .ok (.iaload, 1) := by decide +kernel
theorem gd_15_91 : decode gm_c15 91 = .ok (.if_icmp .lt (34), 3) := by decide +kernel
theorem gd_15_94 : decode gm_c15 94 = .ok (.aload_n 0, 1) := by decide +kernel
theorem gd_15_95 : decode gm_c15 95 = .ok (.aload_n 0, 1) := by decide +kernel
theorem gd_15_96 : decode gm_c15 96 = .ok (.getfield 7, 3) := by decide +kernel
theorem gd_15_99 : decode gm_c15 99 = .ok (.iload 4, 2) := by decide +kernel
theorem gd_15_101 : decode gm_c15 101 = .ok (.iaload, 1) := by decide +kernel
theorem gd_15_102 : decode gm_c15 102 = .ok (.bipush (38), 2) := by decide +kernel
theorem gd_15_104 : decode gm_c15 104 = .ok (.if_icmp .ne (8), 3) := by decide +kernel
theorem gd_15_107 : decode gm_c15 107 = .ok (.bipush (7), 2) := by decide +kernel
theorem gd_15_109 : decode gm_c15 109 = .ok (.goto (5), 3) := by decide +kernel
theorem gd_15_112 : decode gm_c15 112 = .ok (.bipush (8), 2) := by decide +kernel
theorem gd_15_114 : decode gm_c15 114 = .ok (.iload_n 2, 1) := by decide +kernel
theorem gd_15_115 : decode gm_c15 115 = .ok (.invokevirtual 103, 3) := by decide +kernel
theorem gd_15_118 : decode gm_c15 118 = .ok (.istore_n 2, 1) := by decide +kernel
theorem gd_15_119 : decode gm_c15 119 = .ok (.iinc 4 (-1), 3) := by decide +kernel
theorem gd_15_122 : decode gm_c15 122 = .ok (.goto (-42), 3) := by decide +kernel
theorem gd_15_125 : decode gm_c15 125 = .ok (.aload_n 0, 1) := by decide +kernel
theorem gd_15_126 : decode gm_c15 126 = .ok (.aload_n 0, 1) := by decide +kernel
theorem gd_15_127 : decode gm_c15 127 = .ok (.getfield 56, 3) := by decide +kernel
theorem gd_15_130 : decode gm_c15 130 = .ok (.aload_n 0, 1) := by decide +kernel
theorem gd_15_131 : decode gm_c15 131 = .ok (.getfield 107, 3) := by decide +kernel
theorem gd_15_134 : decode gm_c15 134 = .ok (.iaload, 1) := by decide +kernel
theorem gd_15_135 : decode gm_c15 135 = .ok (.iload_n 2, 1) := by decide +kernel
theorem gd_15_136 : decode gm_c15 136 = .ok (.invokevirtual 110, 3) := by decide +kernel
theorem gd_15_139 : decode gm_c15 139 = .ok (.return_, 1) := by decide +kernel
theorem gd_16_0 : decode gm_c16 0 = .ok (.aload_n 0, 1) := by decide +kernel
theorem gd_16_1 : decode gm_c16 1 = .ok (.getfield 107, 3) := by decide +kernel
theorem gd_16_4 : decode gm_c16 4 = .ok (.ifCond .le (98), 3) := by decide +kernel
theorem gd_16_7 : decode gm_c16 7 = .ok (.aload_n 0, 1) := by decide +kernel
theorem gd_16_8 : decode gm_c16 8 = .ok (.aload_n 0, 1) := by decide +kernel
theorem gd_16_9 : decode gm_c16 9 = .ok (.getfield 117, 3) := by decide +kernel
theorem gd_16_12 : decode gm_c16 12 = .ok (.invokevirtual 120, 3) := by decide +kernel
theorem gd_16_15 : decode gm_c16 15 = .ok (.aload_n 0, 1) := by decide +kernel
theorem gd_16_16 : decode gm_c16 16 = .ok (.getfield 59, 3) := by decide +kernel
theorem gd_16_19 : decode gm_c16 19 = .ok (.aload_n 0, 1) := by decide +kernel
theorem gd_16_20 : decode gm_c16 20 = .ok (.getfield 107, 3) := by decide +kernel
theorem gd_16_23 : decode gm_c16 23 = .ok (.iaload, 1) := by decide +kernel
theorem gd_16_24 : decode gm_c16 24 = .ok (.bipush (40), 2) := by decide +kernel
theorem gd_16_26 : decode gm_c16 26 = .ok (.if_icmp .ne (8), 3) := by decide +kernel
theorem gd_16_29 : decode gm_c16 29 = .ok (.bipush (41), 2) := by decide +kernel
theorem gd_16_31 : decode gm_c16 31 = .ok (.goto (5), 3) := by decide +kernel
theorem gd_16_34 : decode gm_c16 34 = .ok (.bipush (125), 2) := by decide +kernel
theorem gd_16_36 : decode gm_c16 36 = .ok (.if_icmp .ne (66), 3) := by decide +kernel
theorem gd_16_39 : decode gm_c16 39 = .ok (.aload_n 0, 1) := by decide +kernel
theorem gd_16_40 : decode gm_c16 40 = .ok (.getfield 53, 3) := by decide +kernel
theorem gd_16_43 : decode gm_c16 43 = .ok (.aload_n 0, 1) := by decide +kernel
theorem gd_16_44 : decode gm_c16 44 = .ok (.getfield 107, 3) := by decide +kernel
theorem gd_16_47 : decode gm_c16 47 = .ok (.iaload, 1) := by decide +kernel
theorem gd_16_48 : decode gm_c16 48 = .ok (.istore_n 1, 1) := by decide +kernel
theorem gd_16_49 : decode gm_c16 49 = .ok (.aload_n 0, 1) := by decide +kernel
theorem gd_16_50 : decode gm_c16 50 = .ok (.getfield 59, 3) := by decide +kernel
theorem gd_16_53 : decode gm_c16 53 = .ok (.aload_n 0, 1) := by decide +kernel
theorem gd_16_54 : decode gm_c16 54 = .ok (.getfield 107, 3) := by decide +kernel
theorem gd_16_57 : decode gm_c16 57 = .ok (.iaload, 1) := by decide +kernel
theorem gd_16_58 : decode gm_c16 58 = .ok (.bipush (123), 2) := by decide +kernel
theorem gd_16_60 : decode gm_c16 60 = .ok (.if_icmp .ne (12), 3) := by decide +kernel
theorem gd_16_63 : decode gm_c16 63 = .ok (.aload_n 0, 1) := by decide +kernel
theorem gd_16_64 : decode gm_c16 64 = .ok (.iconst 3, 1) := by decide +kernel
theorem gd_16_65 : decode gm_c16 65 = .ok (.iload_n 1, 1) := by decide +kernel
theorem gd_16_66 : decode gm_c16 66 = .ok (.invokevirtual 103, 3) := by decide +kernel
theorem gd_16_69 : decode gm_c16 69 = .ok (.goto (4), 3) := by decide +kernel
theorem gd_16_72 : decode gm_c16 72 = .ok (.iload_n 1, 1) := by decide +kernel
theorem gd_16_73 : decode gm_c16 73 = .ok (.istore_n 1, 1) := by decide +kernel
theorem gd_16_74 : decode gm_c16 74 = .ok (.aload_n 0, 1) := by decide +kernel
theorem gd_16_75 : decode gm_c16 75 = .ok (.dup, 1) := by decide +kernel
theorem gd_16_76 : decode gm_c16 76 = .ok (.getfield 117, 3) := by decide +kernel
theorem gd_16_79 : decode gm_c16 79 = .ok (.iconst 1, 1) := by decide +kernel
theorem gd_16_80 : decode gm_c16 80 = .ok (.iadd, 1) := by decide +kernel
theorem gd_16_81 : decode gm_c16 81 = .ok (.putfield 117, 3) := by decide +kernel
theorem gd_16_84 : decode gm_c16 84 = .ok (.aload_n 0, 1) := by decide +kernel
theorem gd_16_85 : decode gm_c16 85 = .ok (.dup, 1) := by decide +kernel
theorem gd_16_86 : decode gm_c16 86 = .ok (.getfield 107, 3) := by decide +kernel
theorem gd_16_89 : decode gm_c16 89 = .ok (.iconst 1, 1) := by decide +kernel
theorem gd_16_90 : decode gm_c16 90 = .ok (.isub, 1) := by decide +kernel
theorem gd_16_91 : decode gm_c16 91 = .ok (.putfield 107, 3) := by decide +kernel
theorem gd_16_94 : decode gm_c16 94 = .ok (.aload_n 0, 1) := by decide +kernel
theorem gd_16_95 : decode gm_c16 95 = .ok (.iload_n 1, 1) := by decide +kernel
theorem gd_16_96 : decode gm_c16 96 = .ok (.invokevirtual 130, 3) := by decide +kernel
theorem gd_16_99 : decode gm_c16 99 = .ok (.goto (-99), 3) := by decide +kernel
theorem gd_16_102 : decode gm_c16 102 = .ok (.return_, 1) := by decide +kernel
theorem gd_17_0 : decode gm_c17 0 = .ok (.aload_n 0, 1) := by decide +kernel
theorem gd_17_1 : decode gm_c17 1 = .ok (.getfield 62, 3) := by decide +kernel
theorem gd_17_4 : decode gm_c17 4 = .ok (.aload_n 0, 1) := by decide +kernel
theorem gd_17_5 : decode gm_c17 5 = .ok (.getfield 107, 3) := by decide +kernel
theorem gd_17_8 : decode gm_c17 8 = .ok (.aload_n 0, 1) := by decide +kernel
theorem gd_17_9 : decode gm_c17 9 = .ok (.getfield 117, 3) := by decide +kernel
theorem gd_17_12 : decode gm_c17 12 = .ok (.iastore, 1) := by decide +kernel
theorem gd_17_13 : decode gm_c17 13 = .ok (.aload_n 0, 1) := by decide +kernel
theorem gd_17_14 : decode gm_c17 14 = .ok (.aload_n 0, 1) := by decide +kernel
theorem gd_17_15 : decode gm_c17 15 = .ok (.getfield 117, 3) := by decide +kernel
theorem gd_17_18 : decode gm_c17 18 = .ok (.invokevirtual 120, 3) := by decide +kernel
theorem gd_17_21 : decode gm_c17 21 = .ok (.bipush (38), 2) := by decide +kernel
theorem gd_17_23 : decode gm_c17 23 = .ok (.if_icmp .eq (16), 3) := by decide +kernel
theorem gd_17_26 : decode gm_c17 26 = .ok (.aload_n 0, 1) := by decide +kernel
theorem gd_17_27 : decode gm_c17 27 = .ok (.aload_n 0, 1) := by decide +kernel
theorem gd_17_28 : decode gm_c17 28 = .ok (.getfield 117, 3) := by decide +kernel
theorem gd_17_31 : decode gm_c17 31 = .ok (.invokevirtual 120, 3) := by decide +kernel
theorem gd_17_34 : decode gm_c17 34 = .ok (.bipush (33), 2) := by decide +kernel
theorem gd_17_36 : decode gm_c17 36 = .ok (.if_icmp .ne (16), 3) := by decide +kernel
theorem gd_17_39 : decode gm_c17 39 = .ok (.aload_n 0, 1) := by decide +kernel
theorem gd_17_40 : decode gm_c17 40 = .ok (.dup, 1) := by decide +kernel
theorem gd_17_41 : decode gm_c17 41 = .ok (.getfield 117, 3) := by decide +kernel
theorem gd_17_44 : decode gm_c17 44 = .ok (.iconst 1, 1) := by decide +kernel
theorem gd_17_45 : decode gm_c17 45 = .ok (.iadd, 1) := by decide +kernel
theorem gd_17_46 : decode gm_c17 46 = .ok (.putfield 117, 3) := by decide +kernel
theorem gd_17_49 : decode gm_c17 49 = .ok (.goto (-36), 3) := by decide +kernel
theorem gd_17_52 : decode gm_c17 52 = .ok (.aload_n 0, 1) := by decide +kernel
theorem gd_17_53 : decode gm_c17 53 = .ok (.getfield 65, 3) := by decide +kernel
theorem gd_17_56 : decode gm_c17 56 = .ok (.aload_n 0, 1) := by decide +kernel
theorem gd_17_57 : decode gm_c17 57 = .ok (.getfield 107, 3) := by decide +kernel
theorem gd_17_60 : decode gm_c17 60 = .ok (.aload_n 0, 1) := by decide +kernel
theorem gd_17_61 : decode gm_c17 61 = .ok (.getfield 117, 3) := by decide +kernel
theorem gd_17_64 : decode gm_c17 64 = .ok (.iastore, 1) := by decide +kernel
theorem gd_17_65 : decode gm_c17 65 = .ok (.aload_n 0, 1) := by decide +kernel
theorem gd_17_66 : decode gm_c17 66 = .ok (.aload_n 0, 1) := by decide +kernel
theorem gd_17_67 : decode gm_c17 67 = .ok (.getfield 117, 3) := by decide +kernel
theorem gd_17_70 : decode gm_c17 70 = .ok (.invokevirtual 120, 3) := by decide +kernel
theorem gd_17_73 : decode gm_c17 73 = .ok (.istore_n 1, 1) := by decide +kernel
theorem gd_17_74 : decode gm_c17 74 = .ok (.iload_n 1, 1) := by decide +kernel
theorem gd_17_75 : decode gm_c17 75 = .ok (.bipush (123), 2) := by decide +kernel
theorem gd_17_77 : decode gm_c17 77 = .ok (.if_icmp .ne (22), 3) := by decide +kernel
theorem gd_17_80 : decode gm_c17 80 = .ok (.aload_n 0, 1) := by decide +kernel
theorem gd_17_81 : decode gm_c17 81 = .ok (.aload_n 0, 1) := by decide +kernel
theorem gd_17_82 : decode gm_c17 82 = .ok (.getfield 117, 3) := by decide +kernel
theorem gd_17_85 : decode gm_c17 85 = .ok (.iconst 1, 1) := by decide +kernel
theorem gd_17_86 : decode gm_c17 86 = .ok (.iadd, 1) := by decide +kernel
theorem gd_17_87 : decode gm_c17 87 = .ok (.invokevirtual 120, 3) := by decide +kernel
theorem gd_17_90 : decode gm_c17 90 = .ok (.bipush (125), 2) := by decide +kernel
theorem gd_17_92 : decode gm_c17 92 = .ok (.if_icmp .ne (7), 3) := by decide +kernel
theorem gd_17_95 : decode gm_c17 95 = .ok (.iconst 1, 1) := by decide +kernel
theorem gd_17_96 : decode gm_c17 96 = .ok (.goto (4), 3) := by decide +kernel
theorem gd_17_99 : decode gm_c17 99 = .ok (.iconst 0, 1) := by decide +kernel
theorem gd_17_100 : decode gm_c17 100 = .ok (.istore_n 2, 1) := by decide +kernel
theorem gd_17_101 : decode gm_c17 101 = .ok (.iload_n 1, 1) := by decide +kernel
theorem gd_17_102 : decode gm_c17 102 = .ok (.bipush (40), 2) := by decide +kernel
theorem gd_17_104 : decode gm_c17 104 = .ok (.if_icmp .eq (9), 3) := by decide +kernel
theorem gd_17_107 : decode gm_c17 107 = .ok (.iload_n 1, 1) := by decide +kernel
theorem gd_17_108 : decode gm_c17 108 = .ok (.bipush (123), 2) := by decide +kernel
theorem gd_17_110 : decode gm_c17 110 = .ok (.if_icmp .ne (48), 3) := by decide +kernel
theorem gd_17_113 : decode gm_c17 113 = .ok (.iload_n 2, 1) := by decide +kernel
theorem gd_17_114 : decode gm_c17 114 = .ok (.ifCond .ne (44), 3) := by decide +kernel
theorem gd_17_117 : decode gm_c17 117 = .ok (.aload_n 0, 1) := by decide +kernel
theorem gd_17_118 : decode gm_c17 118 = .ok (.aload_n 0, 1) := by decide +kernel
theorem gd_17_119 : decode gm_c17 119 = .ok (.getfield 107, 3) := by decide +kernel
theorem gd_17_122 : decode gm_c17 122 = .ok (.bipush (6), 2) := by decide +kernel
theorem gd_17_124 : decode gm_c17 124 = .ok (.if_icmp .lt (7), 3) := by decide +kernel
theorem gd_17_127 : decode gm_c17 127 = .ok (.iconst 1, 1) := by decide +kernel
theorem gd_17_128 : decode gm_c17 128 = .ok (.goto (4), 3) := by decide +kernel
theorem gd_17_131 : decode gm_c17 131 = .ok (.iconst 0, 1) := by decide +kernel
theorem gd_17_132 : decode gm_c17 132 = .ok (.putfield 134, 3) := by decide +kernel
theorem gd_17_135 : decode gm_c17 135 = .ok (.aload_n 0, 1) := by decide +kernel
theorem gd_17_136 : decode gm_c17 136 = .ok (.dup, 1) := by decide +kernel
theorem gd_17_137 : decode gm_c17 137 = .ok (.getfield 117, 3) := by decide +kernel
theorem gd_17_140 : decode gm_c17 140 = .ok (.iconst 1, 1) := by decide +kernel
theorem gd_17_141 : decode gm_c17 141 = .ok (.iadd, 1) := by decide +kernel
theorem gd_17_142 : decode gm_c17 142 = .ok (.putfield 117, 3) := by decide +kernel
theorem gd_17_145 : decode gm_c17 145 = .ok (.aload_n 0, 1) := by decide +kernel
theorem gd_17_146 : decode gm_c17 146 = .ok (.getfield 134, 3) := by decide +kernel
theorem gd_17_149 : decode gm_c17 149 = .ok (.ifCond .ne (8), 3) := by decide +kernel
theorem gd_17_152 : decode gm_c17 152 = .ok (.aload_n 0, 1) := by decide +kernel
theorem gd_17_153 : decode gm_c17 153 = .ok (.iload_n 1, 1) := by decide +kernel
theorem gd_17_154 : decode gm_c17 154 = .ok (.invokevirtual 138, 3) := by decide +kernel
theorem gd_17_157 : decode gm_c17 157 = .ok (.return_, 1) := by decide +kernel
theorem gd_17_158 : decode gm_c17 158 = .ok (.aload_n 0, 1) := by decide +kernel
theorem gd_17_159 : decode gm_c17 159 = .ok (.invokevirtual 141, 3) := by decide +kernel
theorem gd_17_162 : decode gm_c17 162 = .ok (.istore_n 3, 1) := by decide +kernel
theorem gd_17_163 : decode gm_c17 163 = .ok (.aload_n 0, 1) := by decide +kernel
theorem gd_17_164 : decode gm_c17 164 = .ok (.iload_n 3, 1) := by decide +kernel
theorem gd_17_165 : decode gm_c17 165 = .ok (.ifCond .ge (7), 3) := by decide +kernel
theorem gd_17_168 : decode gm_c17 168 = .ok (.iconst 1, 1) := by decide +kernel
theorem gd_17_169 : decode gm_c17 169 = .ok (.goto (4), 3) := by decide +kernel
theorem gd_17_172 : decode gm_c17 172 = .ok (.iconst 0, 1) := by decide +kernel
theorem gd_17_173 : decode gm_c17 173 = .ok (.putfield 134, 3) := by decide +kernel
theorem gd_17_176 : decode gm_c17 176 = .ok (.aload_n 0, 1) := by decide +kernel
theorem gd_17_177 : decode gm_c17 177 = .ok (.getfield 134, 3) := by decide +kernel
theorem gd_17_180 : decode gm_c17 180 = .ok (.ifCond .eq (4), 3) := by decide +kernel
theorem gd_17_183 : decode gm_c17 183 = .ok (.return_, 1) := by decide +kernel
theorem gd_17_184 : decode gm_c17 184 = .ok (.aload_n 0, 1) := by decide +kernel
theorem gd_17_185 : decode gm_c17 185 = .ok (.iload_n 3, 1) := by decide +kernel
theorem gd_17_186 : decode gm_c17 186 = .ok (.invokevirtual 130, 3) := by decide +kernel
theorem gd_17_189 : decode gm_c17 189 = .ok (.aload_n 0, 1) := by decide +kernel
theorem gd_17_190 : decode gm_c17 190 = .ok (.invokevirtual 145, 3) := by decide +kernel
theorem gd_17_193 : decode gm_c17 193 = .ok (.aload_n 0, 1) := by decide +kernel
theorem gd_17_194 : decode gm_c17 194 = .ok (.aload_n 0, 1) := by decide +kernel
theorem gd_17_195 : decode gm_c17 195 = .ok (.getfield 117, 3) := by decide +kernel
theorem gd_17_198 : decode gm_c17 198 = .ok (.invokevirtual 120, 3) := by decide +kernel
theorem gd_17_201 : decode gm_c17 201 = .ok (.bipush (47), 2) := by decide +kernel
theorem gd_17_203 : decode gm_c17 203 = .ok (.if_icmp .ne (37), 3) := by decide +kernel
theorem gd_17_206 : decode gm_c17 206 = .ok (.aload_n 0, 1) := by decide +kernel
theorem gd_17_207 : decode gm_c17 207 = .ok (.dup, 1) := by decide +kernel
theorem gd_17_208 : decode gm_c17 208 = .ok (.getfield 117, 3) := by decide +kernel
theorem gd_17_211 : decode gm_c17 211 = .ok (.iconst 1, 1) := by decide +kernel
theorem gd_17_212 : decode gm_c17 212 = .ok (.iadd, 1) := by decide +kernel
theorem gd_17_213 : decode gm_c17 213 = .ok (.putfield 117, 3) := by decide +kernel
theorem gd_17_216 : decode gm_c17 216 = .ok (.aload_n 0, 1) := by decide +kernel
theorem gd_17_217 : decode gm_c17 217 = .ok (.invokevirtual 114, 3) := by decide +kernel
theorem gd_17_220 : decode gm_c17 220 = .ok (.aload_n 0, 1) := by decide +kernel
theorem gd_17_221 : decode gm_c17 221 = .ok (.aload_n 0, 1) := by decide +kernel
theorem gd_17_222 : decode gm_c17 222 = .ok (.getfield 117, 3) := by decide +kernel
theorem gd_17_225 : decode gm_c17 225 = .ok (.aload_n 0, 1) := by decide +kernel
theorem gd_17_226 : decode gm_c17 226 = .ok (.getfield 97, 3) := by decide +kernel
theorem gd_17_229 : decode gm_c17 229 = .ok (.if_icmp .lt (7), 3) := by decide +kernel
theorem gd_17_232 : decode gm_c17 232 = .ok (.iconst 1, 1) := by decide +kernel
theorem gd_17_233 : decode gm_c17 233 = .ok (.goto (4), 3) := by decide +kernel
theorem gd_17_236 : decode gm_c17 236 = .ok (.iconst 0, 1) := by decide +kernel
theorem gd_17_237 : decode gm_c17 237 = .ok (.putfield 134, 3) := by decide +kernel
theorem gd_17_240 : decode gm_c17 240 = .ok (.return_, 1) := by decide +kernel
theorem gd_18_0 : decode gm_c18 0 = .ok (.aload_n 0, 1) := by decide +kernel
theorem gd_18_1 : decode gm_c18 1 = .ok (.iconst 0, 1) := by decide +kernel
theorem gd_18_2 : decode gm_c18 2 = .ok (.invokevirtual 120, 3) := by decide +kernel
theorem gd_18_5 : decode gm_c18 5 = .ok (.bipush (65), 2) := by decide +kernel
theorem gd_18_7 : decode gm_c18 7 = .ok (.if_icmp .lt (31), 3) := by decide +kernel
theorem gd_18_10 : decode gm_c18 10 = .ok (.aload_n 0, 1) := by decide +kernel
theorem gd_18_11 : decode gm_c18 11 = .ok (.iconst 0, 1) := by decide +kernel
theorem gd_18_12 : decode gm_c18 12 = .ok (.invokevirtual 120, 3) := by decide +kernel
theorem gd_18_15 : decode gm_c18 15 = .ok (.bipush (68), 2) := by decide +kernel
theorem gd_18_17 : decode gm_c18 17 = .ok (.if_icmp .gt (21), 3) := by decide +kernel
theorem gd_18_20 : decode gm_c18 20 = .ok (.aload_n 0, 1) := by decide +kernel
theorem gd_18_21 : decode gm_c18 21 = .ok (.iconst 1, 1) := by decide +kernel
theorem gd_18_22 : decode gm_c18 22 = .ok (.invokevirtual 120, 3) := by decide +kernel
theorem gd_18_25 : decode gm_c18 25 = .ok (.bipush (61), 2) := by decide +kernel
theorem gd_18_27 : decode gm_c18 27 = .ok (.if_icmp .ne (11), 3) := by decide +kernel
theorem gd_18_30 : decode gm_c18 30 = .ok (.aload_n 0, 1) := by decide +kernel
theorem gd_18_31 : decode gm_c18 31 = .ok (.getfield 97, 3) := by decide +kernel
theorem gd_18_34 : decode gm_c18 34 = .ok (.iconst 3, 1) := by decide +kernel
theorem gd_18_35 : decode gm_c18 35 = .ok (.if_icmp .ge (5), 3) := by decide +kernel
theorem gd_18_38 : decode gm_c18 38 = .ok (.iconst 0, 1) := by decide +kernel
theorem gd_18_39 : decode gm_c18 39 = .ok (.ireturn, 1) := by decide +kernel
theorem gd_18_40 : decode gm_c18 40 = .ok (.aload_n 0, 1) := by decide +kernel
theorem gd_18_41 : decode gm_c18 41 = .ok (.iconst 2, 1) := by decide +kernel
theorem gd_18_42 : decode gm_c18 42 = .ok (.putfield 117, 3) := by decide +kernel
theorem gd_18_45 : decode gm_c18 45 = .ok (.aload_n 0, 1) := by decide +kernel
theorem gd_18_46 : decode gm_c18 46 = .ok (.iconst 0, 1) := by decide +kernel
theorem gd_18_47 : decode gm_c18 47 = .ok (.putfield 134, 3) := by decide +kernel
theorem gd_18_50 : decode gm_c18 50 = .ok (.aload_n 0, 1) := by decide +kernel
theorem gd_18_51 : decode gm_c18 51 = .ok (.getfield 26, 3) := by decide +kernel
theorem gd_18_54 : decode gm_c18 54 = .ok (.iconst 4, 1) := by decide +kernel
theorem gd_18_55 : decode gm_c18 55 = .ok (.iconst 0, 1) := by decide +kernel
theorem gd_18_56 : decode gm_c18 56 = .ok (.iastore, 1) := by decide +kernel
theorem gd_18_57 : decode gm_c18 57 = .ok (.aload_n 0, 1) := by decide +kernel
theorem gd_18_58 : decode gm_c18 58 = .ok (.iconst (-1), 1) := by decide +kernel
theorem gd_18_59 : decode gm_c18 59 = .ok (.putfield 107, 3) := by decide +kernel
theorem gd_18_62 : decode gm_c18 62 = .ok (.aload_n 0, 1) := by decide +kernel
theorem gd_18_63 : decode gm_c18 63 = .ok (.iconst 0, 1) := by decide +kernel
theorem gd_18_64 : decode gm_c18 64 = .ok (.invokevirtual 138, 3) := by decide +kernel
theorem gd_18_67 : decode gm_c18 67 = .ok (.aload_n 0, 1) := by decide +kernel
theorem gd_18_68 : decode gm_c18 68 = .ok (.getfield 134, 3) := by decide +kernel
theorem gd_18_71 : decode gm_c18 71 = .ok (.ifCond .ne (21), 3) := by decide +kernel
theorem gd_18_74 : decode gm_c18 74 = .ok (.aload_n 0, 1) := by decide +kernel
theorem gd_18_75 : decode gm_c18 75 = .ok (.getfield 117, 3) := by decide +kernel
theorem gd_18_78 : decode gm_c18 78 = .ok (.aload_n 0, 1) := by decide +kernel
theorem gd_18_79 : decode gm_c18 79 = .ok (.getfield 97, 3) := by decide +kernel
theorem gd_18_82 : decode gm_c18 82 = .ok (.if_icmp .ge (10), 3) := by decide +kernel
theorem gd_18_85 : decode gm_c18 85 = .ok (.aload_n 0, 1) := by decide +kernel
theorem gd_18_86 : decode gm_c18 86 = .ok (.invokevirtual 148, 3) := by decide +kernel
theorem gd_18_89 : decode gm_c18 89 = .ok (.goto (-22), 3) := by decide +kernel
theorem gd_18_92 : decode gm_c18 92 = .ok (.aload_n 0, 1) := by decide +kernel
theorem gd_18_93 : decode gm_c18 93 = .ok (.getfield 134, 3) := by decide +kernel
theorem gd_18_96 : decode gm_c18 96 = .ok (.ifCond .ne (28), 3) := by decide +kernel
theorem gd_18_99 : decode gm_c18 99 = .ok (.aload_n 0, 1) := by decide +kernel
theorem gd_18_100 : decode gm_c18 100 = .ok (.getfield 107, 3) := by decide +kernel
theorem gd_18_103 : decode gm_c18 103 = .ok (.ifCond .ne (21), 3) := by decide +kernel
theorem gd_18_106 : decode gm_c18 106 = .ok (.aload_n 0, 1) := by decide +kernel
theorem gd_18_107 : decode gm_c18 107 = .ok (.getfield 32, 3) := by decide +kernel
theorem gd_18_110 : decode gm_c18 110 = .ok (.aload_n 0, 1) := by decide +kernel
theorem gd_18_111 : decode gm_c18 111 = .ok (.getfield 56, 3) := by decide +kernel
theorem gd_18_114 : decode gm_c18 114 = .ok (.iconst 0, 1) := by decide +kernel
theorem gd_18_115 : decode gm_c18 115 = .ok (.iaload, 1) := by decide +kernel
theorem gd_18_116 : decode gm_c18 116 = .ok (.iaload, 1) := by decide +kernel
theorem gd_18_117 : decode gm_c18 117 = .ok (.ifCond .lt (7), 3) := by decide +kernel
theorem gd_18_120 : decode gm_c18 120 = .ok (.iconst 1, 1) := by decide +kernel
theorem gd_18_121 : decode gm_c18 121 = .ok (.goto (4), 3) := by decide +kernel
theorem gd_18_124 : decode gm_c18 124 = .ok (.iconst 0, 1) := by decide +kernel
theorem gd_18_125 : decode gm_c18 125 = .ok (.ireturn, 1) := by decide +kernel
theorem gd_19_0 : decode gm_c19 0 = .ok (.aload_n 0, 1) := by decide +kernel
theorem gd_19_1 : decode gm_c19 1 = .ok (.aload_n 0, 1) := by decide +kernel
theorem gd_19_2 : decode gm_c19 2 = .ok (.invokevirtual 151, 3) := by decide +kernel
theorem gd_19_5 : decode gm_c19 5 = .ok (.ifCond .eq (7), 3) := by decide +kernel
theorem gd_19_8 : decode gm_c19 8 = .ok (.iconst 0, 1) := by decide +kernel
theorem gd_19_9 : decode gm_c19 9 = .ok (.goto (4), 3) := by decide +kernel
theorem gd_19_12 : decode gm_c19 12 = .ok (.iconst 1, 1) := by decide +kernel
theorem gd_19_13 : decode gm_c19 13 = .ok (.putfield 90, 3) := by decide +kernel
theorem gd_19_16 : decode gm_c19 16 = .ok (.aload_n 0, 1) := by decide +kernel
theorem gd_19_17 : decode gm_c19 17 = .ok (.getfield 7, 3) := by decide +kernel
theorem gd_19_20 : decode gm_c19 20 = .ok (.iconst 0, 1) := by decide +kernel
theorem gd_19_21 : decode gm_c19 21 = .ok (.iaload, 1) := by decide +kernel
theorem gd_19_22 : decode gm_c19 22 = .ok (.bipush (65), 2) := by decide +kernel
theorem gd_19_24 : decode gm_c19 24 = .ok (.isub, 1) := by decide +kernel
theorem gd_19_25 : decode gm_c19 25 = .ok (.istore_n 1, 1) := by decide +kernel
theorem gd_19_26 : decode gm_c19 26 = .ok (.aload_n 0, 1) := by decide +kernel
theorem gd_19_27 : decode gm_c19 27 = .ok (.getfield 90, 3) := by decide +kernel
theorem gd_19_30 : decode gm_c19 30 = .ok (.ifCond .ne (221), 3) := by decide +kernel
theorem gd_19_33 : decode gm_c19 33 = .ok (.bipush (40), 2) := by decide +kernel
theorem gd_19_35 : decode gm_c19 35 = .ok (.iload_n 1, 1) := by decide +kernel
theorem gd_19_36 : decode gm_c19 36 = .ok (.imul, 1) := by decide +kernel
theorem gd_19_37 : decode gm_c19 37 = .ok (.sipush (160), 3) := by decide +kernel
theorem gd_19_40 : decode gm_c19 40 = .ok (.isub, 1) := by decide +kernel
theorem gd_19_41 : decode gm_c19 41 = .ok (.istore_n 2, 1) := by decide +kernel
theorem gd_19_42 : decode gm_c19 42 = .ok (.aload_n 0, 1) := by decide +kernel
theorem gd_19_43 : decode gm_c19 43 = .ok (.getfield 26, 3) := by decide +kernel
theorem gd_19_46 : decode gm_c19 46 = .ok (.iload_n 1, 1) := by decide +kernel
theorem gd_19_47 : decode gm_c19 47 = .ok (.aload_n 0, 1) := by decide +kernel
theorem gd_19_48 : decode gm_c19 48 = .ok (.getfield 26, 3) := by decide +kernel
theorem gd_19_51 : decode gm_c19 51 = .ok (.iconst 4, 1) := by decide +kernel
theorem gd_19_52 : decode gm_c19 52 = .ok (.iaload, 1) := by decide +kernel
theorem gd_19_53 : decode gm_c19 53 = .ok (.iastore, 1) := by decide +kernel
theorem gd_19_54 : decode gm_c19 54 = .ok (.sipush (160), 3) := by decide +kernel
theorem gd_19_57 : decode gm_c19 57 = .ok (.istore_n 3, 1) := by decide +kernel
theorem gd_19_58 : decode gm_c19 58 = .ok (.iload_n 3, 1) := by decide +kernel
theorem gd_19_59 : decode gm_c19 59 = .ok (.sipush (160), 3) := by decide +kernel
theorem gd_19_62 : decode gm_c19 62 = .ok (.aload_n 0, 1) := by decide +kernel
theorem gd_19_63 : decode gm_c19 63 = .ok (.getfield 26, 3) := by decide +kernel
theorem gd_19_66 : decode gm_c19 66 = .ok (.iconst 4, 1) := by decide +kernel
theorem gd_19_67 : decode gm_c19 67 = .ok (.iaload, 1) := by decide +kernel
theorem gd_19_68 : decode gm_c19 68 = .ok (.iadd, 1) := by decide +kernel
theorem gd_19_69 : decode gm_c19 69 = .ok (.if_icmp .ge (132), 3) := by decide +kernel
theorem gd_19_72 : decode gm_c19 72 = .ok (.aload_n 0, 1) := by decide +kernel
theorem gd_19_73 : decode gm_c19 73 = .ok (.getfield 29, 3) := by decide +kernel
theorem gd_19_76 : decode gm_c19 76 = .ok (.iload_n 3, 1) := by decide +kernel
theorem gd_19_77 : decode gm_c19 77 = .ok (.iaload, 1) := by decide +kernel
theorem gd_19_78 : decode gm_c19 78 = .ok (.ifCond .eq (23), 3) := by decide +kernel
theorem gd_19_81 : decode gm_c19 81 = .ok (.aload_n 0, 1) := by decide +kernel
theorem gd_19_82 : decode gm_c19 82 = .ok (.getfield 29, 3) := by decide +kernel
theorem gd_19_85 : decode gm_c19 85 = .ok (.iload_n 3, 1) := by decide +kernel
theorem gd_19_86 : decode gm_c19 86 = .ok (.iaload, 1) := by decide +kernel
theorem gd_19_87 : decode gm_c19 87 = .ok (.iconst 1, 1) := by decide +kernel
theorem gd_19_88 : decode gm_c19 88 = .ok (.if_icmp .eq (13), 3) := by decide +kernel
theorem gd_19_91 : decode gm_c19 91 = .ok (.aload_n 0, 1) := by decide +kernel
theorem gd_19_92 : decode gm_c19 92 = .ok (.getfield 29, 3) := by decide +kernel
theorem gd_19_95 : decode gm_c19 95 = .ok (.iload_n 3, 1) := by decide +kernel
theorem gd_19_96 : decode gm_c19 96 = .ok (.iaload, 1) := by decide +kernel
theorem gd_19_97 : decode gm_c19 97 = .ok (.iconst 2, 1) := by decide +kernel
theorem gd_19_98 : decode gm_c19 98 = .ok (.if_icmp .ne (7), 3) := by decide +kernel
theorem gd_19_101 : decode gm_c19 101 = .ok (.iconst 1, 1) := by decide +kernel
theorem gd_19_102 : decode gm_c19 102 = .ok (.goto (4), 3) := by decide +kernel
theorem gd_19_105 : decode gm_c19 105 = .ok (.iconst 0, 1) := by decide +kernel
theorem gd_19_106 : decode gm_c19 106 = .ok (.istore 4, 2) := by decide +kernel
theorem gd_19_108 : decode gm_c19 108 = .ok (.aload_n 0, 1) := by decide +kernel
theorem gd_19_109 : decode gm_c19 109 = .ok (.getfield 29, 3) := by decide +kernel
theorem gd_19_112 : decode gm_c19 112 = .ok (.iload_n 3, 1) := by decide +kernel
theorem gd_19_113 : decode gm_c19 113 = .ok (.iload_n 2, 1) := by decide +kernel
theorem gd_19_114 : decode gm_c19 114 = .ok (.iadd, 1) := by decide +kernel
theorem gd_19_115 : decode gm_c19 115 = .ok (.aload_n 0, 1) := by decide +kernel
theorem gd_19_116 : decode gm_c19 116 = .ok (.getfield 29, 3) := by decide +kernel
theorem gd_19_119 : decode gm_c19 119 = .ok (.iload_n 3, 1) := by decide +kernel
theorem gd_19_120 : decode gm_c19 120 = .ok (.iaload, 1) := by decide +kernel
theorem gd_19_121 : decode gm_c19 121 = .ok (.iastore, 1) := by decide +kernel
theorem gd_19_122 : decode gm_c19 122 = .ok (.aload_n 0, 1) := by decide +kernel
theorem gd_19_123 : decode gm_c19 123 = .ok (.getfield 32, 3) := by decide +kernel
theorem gd_19_126 : decode gm_c19 126 = .ok (.iload_n 3, 1) := by decide +kernel
theorem gd_19_127 : decode gm_c19 127 = .ok (.iload_n 2, 1) := by decide +kernel
theorem gd_19_128 : decode gm_c19 128 = .ok (.iadd, 1) := by decide +kernel
theorem gd_19_129 : decode gm_c19 129 = .ok (.iload 4, 2) := by decide +kernel
theorem gd_19_131 : decode gm_c19 131 = .ok (.ifCond .eq (12), 3) := by decide +kernel
theorem gd_19_134 : decode gm_c19 134 = .ok (.aload_n 0, 1) := by decide +kernel
theorem gd_19_135 : decode gm_c19 135 = .ok (.getfield 32, 3) := by decide +kernel
theorem gd_19_138 : decode gm_c19 138 = .ok (.iload_n 3, 1) := by decide +kernel
theorem gd_19_139 : decode gm_c19 139 = .ok (.iaload, 1) := by decide +kernel
theorem gd_19_140 : decode gm_c19 140 = .ok (.goto (11), 3) := by decide +kernel
theorem gd_19_143 : decode gm_c19 143 = .ok (.aload_n 0, 1) := by decide +kernel
theorem gd_19_144 : decode gm_c19 144 = .ok (.getfield 32, 3) := by decide +kernel
theorem gd_19_147 : decode gm_c19 147 = .ok (.iload_n 3, 1) := by decide +kernel
theorem gd_19_148 : decode gm_c19 148 = .ok (.iaload, 1) := by decide +kernel
theorem gd_19_149 : decode gm_c19 149 = .ok (.iload_n 2, 1) := by decide +kernel
theorem gd_19_150 : decode gm_c19 150 = .ok (.iadd, 1) := by decide +kernel
theorem gd_19_151 : decode gm_c19 151 = .ok (.iastore, 1) := by decide +kernel
theorem gd_19_152 : decode gm_c19 152 = .ok (.aload_n 0, 1) := by decide +kernel
theorem gd_19_153 : decode gm_c19 153 = .ok (.getfield 35, 3) := by decide +kernel
theorem gd_19_156 : decode gm_c19 156 = .ok (.iload_n 3, 1) := by decide +kernel
theorem gd_19_157 : decode gm_c19 157 = .ok (.iload_n 2, 1) := by decide +kernel
theorem gd_19_158 : decode gm_c19 158 = .ok (.iadd, 1) := by decide +kernel
theorem gd_19_159 : decode gm_c19 159 = .ok (.aload_n 0, 1) := by decide +kernel
theorem gd_19_160 : decode gm_c19 160 = .ok (.getfield 35, 3) := by decide +kernel
theorem gd_19_163 : decode gm_c19 163 = .ok (.iload_n 3, 1) := by decide +kernel
theorem gd_19_164 : decode gm_c19 164 = .ok (.iaload, 1) := by decide +kernel
theorem gd_19_165 : decode gm_c19 165 = .ok (.iastore, 1) := by decide +kernel
theorem gd_19_166 : decode gm_c19 166 = .ok (.aload_n 0, 1) := by decide +kernel
theorem gd_19_167 : decode gm_c19 167 = .ok (.getfield 38, 3) := by decide +kernel
theorem gd_19_170 : decode gm_c19 170 = .ok (.iload_n 3, 1) := by decide +kernel
theorem gd_19_171 : decode gm_c19 171 = .ok (.iload_n 2, 1) := by decide +kernel
theorem gd_19_172 : decode gm_c19 172 = .ok (.iadd, 1) := by decide +kernel
theorem gd_19_173 : decode gm_c19 173 = .ok (.aload_n 0, 1) := by decide +kernel
theorem gd_19_174 : decode gm_c19 174 = .ok (.getfield 38, 3) := by decide +kernel
theorem gd_19_177 : decode gm_c19 177 = .ok (.iload_n 3, 1) := by decide +kernel
theorem gd_19_178 : decode gm_c19 178 = .ok (.iaload, 1) := by decide +kernel
theorem gd_19_179 : decode gm_c19 179 = .ok (.ifCond .ge (7), 3) := by decide +kernel
theorem gd_19_182 : decode gm_c19 182 = .ok (.iconst (-1), 1) := by decide +kernel
theorem gd_19_183 : decode gm_c19 183 = .ok (.goto (11), 3) := by decide +kernel
theorem gd_19_186 : decode gm_c19 186 = .ok (.aload_n 0, 1) := by decide +kernel
theorem gd_19_187 : decode gm_c19 187 = .ok (.getfield 38, 3) := by decide +kernel
theorem gd_19_190 : decode gm_c19 190 = .ok (.iload_n 3, 1) := by decide +kernel
theorem gd_19_191 : decode gm_c19 191 = .ok (.iaload, 1) := by decide +kernel
theorem gd_19_192 : decode gm_c19 192 = .ok (.iload_n 2, 1) := by decide +kernel
theorem gd_19_193 : decode gm_c19 193 = .ok (.iadd, 1) := by decide +kernel
theorem gd_19_194 : decode gm_c19 194 = .ok (.iastore, 1) := by decide +kernel
theorem gd_19_195 : decode gm_c19 195 = .ok (.iinc 3 (1), 3) := by decide +kernel
theorem gd_19_198 : decode gm_c19 198 = .ok (.goto (-140), 3) := by decide +kernel
theorem gd_19_201 : decode gm_c19 201 = .ok (.aload_n 0, 1) := by decide +kernel
theorem gd_19_202 : decode gm_c19 202 = .ok (.getfield 16, 3) := by decide +kernel
theorem gd_19_205 : decode gm_c19 205 = .ok (.iload_n 1, 1) := by decide +kernel
theorem gd_19_206 : decode gm_c19 206 = .ok (.iconst 1, 1) := by decide +kernel
theorem gd_19_207 : decode gm_c19 207 = .ok (.bastore, 1) := by decide +kernel
theorem gd_19_208 : decode gm_c19 208 = .ok (.aload_n 0, 1) := by decide +kernel
theorem gd_19_209 : decode gm_c19 209 = .ok (.getfield 23, 3) := by decide +kernel
theorem gd_19_212 : decode gm_c19 212 = .ok (.iload_n 1, 1) := by decide +kernel
theorem gd_19_213 : decode gm_c19 213 = .ok (.aload_n 0, 1) := by decide +kernel
theorem gd_19_214 : decode gm_c19 214 = .ok (.getfield 97, 3) := by decide +kernel
theorem gd_19_217 : decode gm_c19 217 = .ok (.iastore, 1) := by decide +kernel
theorem gd_19_218 : decode gm_c19 218 = .ok (.iconst 0, 1) := by decide +kernel
theorem gd_19_219 : decode gm_c19 219 = .ok (.istore_n 3, 1) := by decide +kernel
theorem gd_19_220 : decode gm_c19 220 = .ok (.iload_n 3, 1) := by decide +kernel
theorem gd_19_221 : decode gm_c19 221 = .ok (.aload_n 0, 1) := by decide +kernel
theorem gd_19_222 : decode gm_c19 222 = .ok (.getfield 97, 3) := by decide +kernel
theorem gd_19_225 : decode gm_c19 225 = .ok (.if_icmp .ge (26), 3) := by decide +kernel
theorem gd_19_228 : decode gm_c19 228 = .ok (.aload_n 0, 1) := by decide +kernel
theorem gd_19_229 : decode gm_c19 229 = .ok (.getfield 20, 3) := by decide +kernel
theorem gd_19_232 : decode gm_c19 232 = .ok (.bipush (20), 2) := by decide +kernel
theorem gd_19_234 : decode gm_c19 234 = .ok (.iload_n 1, 1) := by decide +kernel
theorem gd_19_235 : decode gm_c19 235 = .ok (.imul, 1) := by decide +kernel
theorem gd_19_236 : decode gm_c19 236 = .ok (.iload_n 3, 1) := by decide +kernel
theorem gd_19_237 : decode gm_c19 237 = .ok (.iadd, 1) := by decide +kernel
theorem gd_19_238 : decode gm_c19 238 = .ok (.aload_n 0, 1) := by decide +kernel
theorem gd_19_239 : decode gm_c19 239 = .ok (.getfield 7, 3) := by decide +kernel
theorem gd_19_242 : decode gm_c19 242 = .ok (.iload_n 3, 1) := by decide +kernel
theorem gd_19_243 : decode gm_c19 243 = .ok (.iaload, 1) := by decide +kernel
theorem gd_19_244 : decode gm_c19 244 = .ok (.iastore, 1) := by decide +kernel
theorem gd_19_245 : decode gm_c19 245 = .ok (.iinc 3 (1), 3) := by decide +kernel
theorem gd_19_248 : decode gm_c19 248 = .ok (.goto (-28), 3) := by decide +kernel
theorem gd_19_251 : decode gm_c19 251 = .ok (.aload_n 0, 1) := by decide +kernel
theorem gd_19_252 : decode gm_c19 252 = .ok (.iconst 0, 1) := by decide +kernel
theorem gd_19_253 : decode gm_c19 253 = .ok (.putfield 97, 3) := by decide +kernel
theorem gd_19_256 : decode gm_c19 256 = .ok (.aload_n 0, 1) := by decide +kernel
theorem gd_19_257 : decode gm_c19 257 = .ok (.getfield 90, 3) := by decide +kernel
theorem gd_19_260 : decode gm_c19 260 = .ok (.ifCond .ne (7), 3) := by decide +kernel
theorem gd_19_263 : decode gm_c19 263 = .ok (.iload_n 1, 1) := by decide +kernel
theorem gd_19_264 : decode gm_c19 264 = .ok (.goto (4), 3) := by decide +kernel
theorem gd_19_267 : decode gm_c19 267 = .ok (.iconst 0, 1) := by decide +kernel
theorem gd_19_268 : decode gm_c19 268 = .ok (.ireturn, 1) := by decide +kernel
theorem gd_20_0 : decode gm_c20 0 = .ok (.aload_n 0, 1) := by decide +kernel
theorem gd_20_1 : decode gm_c20 1 = .ok (.iload_n 1, 1) := by decide +kernel
theorem gd_20_2 : decode gm_c20 2 = .ok (.invokestatic 155, 3) := by decide +kernel
theorem gd_20_5 : decode gm_c20 5 = .ok (.ifCond .eq (7), 3) := by decide +kernel
theorem gd_20_8 : decode gm_c20 8 = .ok (.iconst 0, 1) := by decide +kernel
theorem gd_20_9 : decode gm_c20 9 = .ok (.goto (4), 3) := by decide +kernel
theorem gd_20_12 : decode gm_c20 12 = .ok (.iconst 1, 1) := by decide +kernel
theorem gd_20_13 : decode gm_c20 13 = .ok (.putfield 90, 3) := by decide +kernel
theorem gd_20_16 : decode gm_c20 16 = .ok (.aload_n 0, 1) := by decide +kernel
theorem gd_20_17 : decode gm_c20 17 = .ok (.getfield 90, 3) := by decide +kernel
theorem gd_20_20 : decode gm_c20 20 = .ok (.ifCond .gt (12), 3) := by decide +kernel
theorem gd_20_23 : decode gm_c20 23 = .ok (.aload_n 0, 1) := by decide +kernel
theorem gd_20_24 : decode gm_c20 24 = .ok (.getfield 16, 3) := by decide +kernel
theorem gd_20_27 : decode gm_c20 27 = .ok (.iload_n 1, 1) := by decide +kernel
theorem gd_20_28 : decode gm_c20 28 = .ok (.baload, 1) := by decide +kernel
theorem gd_20_29 : decode gm_c20 29 = .ok (.ifCond .ne (5), 3) := by decide +kernel
theorem gd_20_32 : decode gm_c20 32 = .ok (.iconst 0, 1) := by decide +kernel
theorem gd_20_33 : decode gm_c20 33 = .ok (.ireturn, 1) := by decide +kernel
theorem gd_20_34 : decode gm_c20 34 = .ok (.aload_n 0, 1) := by decide +kernel
theorem gd_20_35 : decode gm_c20 35 = .ok (.getfield 16, 3) := by decide +kernel
theorem gd_20_38 : decode gm_c20 38 = .ok (.iload_n 1, 1) := by decide +kernel
theorem gd_20_39 : decode gm_c20 39 = .ok (.iconst 0, 1) := by decide +kernel
theorem gd_20_40 : decode gm_c20 40 = .ok (.bastore, 1) := by decide +kernel
theorem gd_20_41 : decode gm_c20 41 = .ok (.iconst 1, 1) := by decide +kernel
theorem gd_20_42 : decode gm_c20 42 = .ok (.ireturn, 1) := by decide +kernel
theorem gd_21_0 : decode gm_c21 0 = .ok (.aload_n 0, 1) := by decide +kernel
theorem gd_21_1 : decode gm_c21 1 = .ok (.iconst 0, 1) := by decide +kernel
theorem gd_21_2 : decode gm_c21 2 = .ok (.putfield 90, 3) := by decide +kernel
theorem gd_21_5 : decode gm_c21 5 = .ok (.iload_n 1, 1) := by decide +kernel
theorem gd_21_6 : decode gm_c21 6 = .ok (.invokestatic 155, 3) := by decide +kernel
theorem gd_21_9 : decode gm_c21 9 = .ok (.ifCond .eq (41), 3) := by decide +kernel
theorem gd_21_12 : decode gm_c21 12 = .ok (.aload_n 0, 1) := by decide +kernel
theorem gd_21_13 : decode gm_c21 13 = .ok (.getfield 16, 3) := by decide +kernel
theorem gd_21_16 : decode gm_c21 16 = .ok (.iload_n 1, 1) := by decide +kernel
theorem gd_21_17 : decode gm_c21 17 = .ok (.baload, 1) := by decide +kernel
theorem gd_21_18 : decode gm_c21 18 = .ok (.ifCond .eq (32), 3) := by decide +kernel
theorem gd_21_21 : decode gm_c21 21 = .ok (.iload_n 2, 1) := by decide +kernel
theorem gd_21_22 : decode gm_c21 22 = .ok (.ifCond .lt (28), 3) := by decide +kernel
theorem gd_21_25 : decode gm_c21 25 = .ok (.iload_n 2, 1) := by decide +kernel
theorem gd_21_26 : decode gm_c21 26 = .ok (.aload_n 0, 1) := by decide +kernel
theorem gd_21_27 : decode gm_c21 27 = .ok (.getfield 23, 3) := by decide +kernel
theorem gd_21_30 : decode gm_c21 30 = .ok (.iload_n 1, 1) := by decide +kernel
theorem gd_21_31 : decode gm_c21 31 = .ok (.iaload, 1) := by decide +kernel
theorem gd_21_32 : decode gm_c21 32 = .ok (.if_icmp .ge (18), 3) := by decide +kernel
theorem gd_21_35 : decode gm_c21 35 = .ok (.aload_n 0, 1) := by decide +kernel
theorem gd_21_36 : decode gm_c21 36 = .ok (.getfield 20, 3) := by decide +kernel
theorem gd_21_39 : decode gm_c21 39 = .ok (.bipush (20), 2) := by decide +kernel
theorem gd_21_41 : decode gm_c21 41 = .ok (.iload_n 1, 1) := by decide +kernel
theorem gd_21_42 : decode gm_c21 42 = .ok (.imul, 1) := by decide +kernel
theorem gd_21_43 : decode gm_c21 43 = .ok (.iload_n 2, 1) := by decide +kernel
theorem gd_21_44 : decode gm_c21 44 = .ok (.iadd, 1) := by decide +kernel
theorem gd_21_45 : decode gm_c21 45 = .ok (.iaload, 1) := by decide +kernel
theorem gd_21_46 : decode gm_c21 46 = .ok (.i2c, 1) := by decide +kernel
theorem gd_21_47 : decode gm_c21 47 = .ok (.goto (4), 3) := by decide +kernel
theorem gd_21_50 : decode gm_c21 50 = .ok (.iconst 0, 1) := by decide +kernel
theorem gd_21_51 : decode gm_c21 51 = .ok (.ireturn, 1) := by decide +kernel
theorem gd_22_0 : decode gm_c22 0 = .ok (.iload_n 1, 1) := by decide +kernel
theorem gd_22_1 : decode gm_c22 1 = .ok (.sipush (160), 3) := by decide +kernel
theorem gd_22_4 : decode gm_c22 4 = .ok (.if_icmp .ge (35), 3) := by decide +kernel
theorem gd_22_7 : decode gm_c22 7 = .ok (.aload_n 0, 1) := by decide +kernel
theorem gd_22_8 : decode gm_c22 8 = .ok (.getfield 16, 3) := by decide +kernel
theorem gd_22_11 : decode gm_c22 11 = .ok (.iload_n 1, 1) := by decide +kernel
theorem gd_22_12 : decode gm_c22 12 = .ok (.bipush (40), 2) := by decide +kernel
theorem gd_22_14 : decode gm_c22 14 = .ok (.idiv, 1) := by decide +kernel
theorem gd_22_15 : decode gm_c22 15 = .ok (.baload, 1) := by decide +kernel
theorem gd_22_16 : decode gm_c22 16 = .ok (.ifCond .eq (23), 3) := by decide +kernel
theorem gd_22_19 : decode gm_c22 19 = .ok (.iload_n 1, 1) := by decide +kernel
theorem gd_22_20 : decode gm_c22 20 = .ok (.bipush (40), 2) := by decide +kernel
theorem gd_22_22 : decode gm_c22 22 = .ok (.irem, 1) := by decide +kernel
theorem gd_22_23 : decode gm_c22 23 = .ok (.aload_n 0, 1) := by decide +kernel
theorem gd_22_24 : decode gm_c22 24 = .ok (.getfield 26, 3) := by decide +kernel
theorem gd_22_27 : decode gm_c22 27 = .ok (.iload_n 1, 1) := by decide +kernel
theorem gd_22_28 : decode gm_c22 28 = .ok (.bipush (40), 2) := by decide +kernel
theorem gd_22_30 : decode gm_c22 30 = .ok (.idiv, 1) := by decide +kernel
theorem gd_22_31 : decode gm_c22 31 = .ok (.iaload, 1) := by decide +kernel
theorem gd_22_32 : decode gm_c22 32 = .ok (.if_icmp .ge (7), 3) := by decide +kernel
theorem gd_22_35 : decode gm_c22 35 = .ok (.iconst 1, 1) := by decide +kernel
theorem gd_22_36 : decode gm_c22 36 = .ok (.goto (4), 3) := by decide +kernel
theorem gd_22_39 : decode gm_c22 39 = .ok (.iconst 0, 1) := by decide +kernel
theorem gd_22_40 : decode gm_c22 40 = .ok (.ireturn, 1) := by decide +kernel
theorem gd_23_0 : decode gm_c23 0 = .ok (.aload_n 0, 1) := by decide +kernel
theorem gd_23_1 : decode gm_c23 1 = .ok (.getfield 29, 3) := by decide +kernel
theorem gd_23_4 : decode gm_c23 4 = .ok (.iload_n 1, 1) := by decide +kernel
theorem gd_23_5 : decode gm_c23 5 = .ok (.iaload, 1) := by decide +kernel
theorem gd_23_6 : decode gm_c23 6 = .ok (.istore_n 2, 1) := by decide +kernel
theorem gd_23_7 : decode gm_c23 7 = .ok (.iload_n 2, 1) := by decide +kernel
theorem gd_23_8 : decode gm_c23 8 = .ok (.ifCond .ne (5), 3) := by decide +kernel
theorem gd_23_11 : decode gm_c23 11 = .ok (.iconst 0, 1) := by decide +kernel
theorem gd_23_12 : decode gm_c23 12 = .ok (.ireturn, 1) := by decide +kernel
theorem gd_23_13 : decode gm_c23 13 = .ok (.iload_n 2, 1) := by decide +kernel
theorem gd_23_14 : decode gm_c23 14 = .ok (.iconst 1, 1) := by decide +kernel
theorem gd_23_15 : decode gm_c23 15 = .ok (.if_icmp .ne (40), 3) := by decide +kernel
theorem gd_23_18 : decode gm_c23 18 = .ok (.aload_n 0, 1) := by decide +kernel
theorem gd_23_19 : decode gm_c23 19 = .ok (.getfield 16, 3) := by decide +kernel
theorem gd_23_22 : decode gm_c23 22 = .ok (.aload_n 0, 1) := by decide +kernel
theorem gd_23_23 : decode gm_c23 23 = .ok (.getfield 32, 3) := by decide +kernel
theorem gd_23_26 : decode gm_c23 26 = .ok (.iload_n 1, 1) := by decide +kernel
theorem gd_23_27 : decode gm_c23 27 = .ok (.iaload, 1) := by decide +kernel
theorem gd_23_28 : decode gm_c23 28 = .ok (.baload, 1) := by decide +kernel
theorem gd_23_29 : decode gm_c23 29 = .ok (.ifCond .eq (24), 3) := by decide +kernel
theorem gd_23_32 : decode gm_c23 32 = .ok (.aload_n 0, 1) := by decide +kernel
theorem gd_23_33 : decode gm_c23 33 = .ok (.getfield 44, 3) := by decide +kernel
theorem gd_23_36 : decode gm_c23 36 = .ok (.bipush (40), 2) := by decide +kernel
theorem gd_23_38 : decode gm_c23 38 = .ok (.aload_n 0, 1) := by decide +kernel
theorem gd_23_39 : decode gm_c23 39 = .ok (.getfield 32, 3) := by decide +kernel
theorem gd_23_42 : decode gm_c23 42 = .ok (.iload_n 1, 1) := by decide +kernel
theorem gd_23_43 : decode gm_c23 43 = .ok (.iaload, 1) := by decide +kernel
theorem gd_23_44 : decode gm_c23 44 = .ok (.imul, 1) := by decide +kernel
theorem gd_23_45 : decode gm_c23 45 = .ok (.baload, 1) := by decide +kernel
theorem gd_23_46 : decode gm_c23 46 = .ok (.ifCond .eq (7), 3) := by decide +kernel
theorem gd_23_49 : decode gm_c23 49 = .ok (.iconst 1, 1) := by decide +kernel
theorem gd_23_50 : decode gm_c23 50 = .ok (.goto (4), 3) := by decide +kernel
theorem gd_23_53 : decode gm_c23 53 = .ok (.iconst 0, 1) := by decide +kernel
theorem gd_23_54 : decode gm_c23 54 = .ok (.ireturn, 1) := by decide +kernel
theorem gd_23_55 : decode gm_c23 55 = .ok (.iload_n 2, 1) := by decide +kernel
theorem gd_23_56 : decode gm_c23 56 = .ok (.iconst 3, 1) := by decide +kernel
theorem gd_23_57 : decode gm_c23 57 = .ok (.if_icmp .eq (8), 3) := by decide +kernel
theorem gd_23_60 : decode gm_c23 60 = .ok (.iload_n 2, 1) := by decide +kernel
theorem gd_23_61 : decode gm_c23 61 = .ok (.iconst 5, 1) := by decide +kernel
theorem gd_23_62 : decode gm_c23 62 = .ok (.if_icmp .ne (15), 3) := by decide +kernel
theorem gd_23_65 : decode gm_c23 65 = .ok (.aload_n 0, 1) := by decide +kernel
theorem gd_23_66 : decode gm_c23 66 = .ok (.getfield 44, 3) := by decide +kernel
theorem gd_23_69 : decode gm_c23 69 = .ok (.aload_n 0, 1) := by decide +kernel
theorem gd_23_70 : decode gm_c23 70 = .ok (.getfield 32, 3) := by decide +kernel
theorem gd_23_73 : decode gm_c23 73 = .ok (.iload_n 1, 1) := by decide +kernel
theorem gd_23_74 : decode gm_c23 74 = .ok (.iaload, 1) := by decide +kernel
theorem gd_23_75 : decode gm_c23 75 = .ok (.baload, 1) := by decide +kernel
theorem gd_23_76 : decode gm_c23 76 = .ok (.ireturn, 1) := by decide +kernel
theorem gd_23_77 : decode gm_c23 77 = .ok (.iload_n 2, 1) := by decide +kernel
theorem gd_23_78 : decode gm_c23 78 = .ok (.bipush (9), 2) := by decide +kernel
theorem gd_23_80 : decode gm_c23 80 = .ok (.if_icmp .ne (52), 3) := by decide +kernel
theorem gd_23_83 : decode gm_c23 83 = .ok (.iconst 1, 1) := by decide +kernel
theorem gd_23_84 : decode gm_c23 84 = .ok (.istore_n 3, 1) := by decide +kernel
theorem gd_23_85 : decode gm_c23 85 = .ok (.aload_n 0, 1) := by decide +kernel
theorem gd_23_86 : decode gm_c23 86 = .ok (.getfield 32, 3) := by decide +kernel
theorem gd_23_89 : decode gm_c23 89 = .ok (.iload_n 1, 1) := by decide +kernel
theorem gd_23_90 : decode gm_c23 90 = .ok (.iaload, 1) := by decide +kernel
theorem gd_23_91 : decode gm_c23 91 = .ok (.istore 4, 2) := by decide +kernel
theorem gd_23_93 : decode gm_c23 93 = .ok (.iload 4, 2) := by decide +kernel
theorem gd_23_95 : decode gm_c23 95 = .ok (.ifCond .lt (35), 3) := by decide +kernel
theorem gd_23_98 : decode gm_c23 98 = .ok (.iload_n 3, 1) := by decide +kernel
theorem gd_23_99 : decode gm_c23 99 = .ok (.ifCond .eq (17), 3) := by decide +kernel
theorem gd_23_102 : decode gm_c23 102 = .ok (.aload_n 0, 1) := by decide +kernel
theorem gd_23_103 : decode gm_c23 103 = .ok (.getfield 44, 3) := by decide +kernel
theorem gd_23_106 : decode gm_c23 106 = .ok (.iload 4, 2) := by decide +kernel
theorem gd_23_108 : decode gm_c23 108 = .ok (.baload, 1) := by decide +kernel
theorem gd_23_109 : decode gm_c23 109 = .ok (.ifCond .eq (7), 3) := by decide +kernel
theorem gd_23_112 : decode gm_c23 112 = .ok (.iconst 1, 1) := by decide +kernel
theorem gd_23_113 : decode gm_c23 113 = .ok (.goto (4), 3) := by decide +kernel
theorem gd_23_116 : decode gm_c23 116 = .ok (.iconst 0, 1) := by decide +kernel
theorem gd_23_117 : decode gm_c23 117 = .ok (.istore_n 3, 1) := by decide +kernel
theorem gd_23_118 : decode gm_c23 118 = .ok (.aload_n 0, 1) := by decide +kernel
theorem gd_23_119 : decode gm_c23 119 = .ok (.getfield 38, 3) := by decide +kernel
theorem gd_23_122 : decode gm_c23 122 = .ok (.iload 4, 2) := by decide +kernel
theorem gd_23_124 : decode gm_c23 124 = .ok (.iaload, 1) := by decide +kernel
theorem gd_23_125 : decode gm_c23 125 = .ok (.istore 4, 2) := by decide +kernel
theorem gd_23_127 : decode gm_c23 127 = .ok (.goto (-34), 3) := by decide +kernel
theorem gd_23_130 : decode gm_c23 130 = .ok (.iload_n 3, 1) := by decide +kernel
theorem gd_23_131 : decode gm_c23 131 = .ok (.ireturn, 1) := by decide +kernel
theorem gd_23_132 : decode gm_c23 132 = .ok (.iload_n 2, 1) := by decide +kernel
theorem gd_23_133 : decode gm_c23 133 = .ok (.bipush (10), 2) := by decide +kernel
theorem gd_23_135 : decode gm_c23 135 = .ok (.if_icmp .eq (7), 3) := by decide +kernel
theorem gd_23_138 : decode gm_c23 138 = .ok (.iconst 1, 1) := by decide +kernel
theorem gd_23_139 : decode gm_c23 139 = .ok (.goto (4), 3) := by decide +kernel
theorem gd_23_142 : decode gm_c23 142 = .ok (.iconst 0, 1) := by decide +kernel
theorem gd_23_143 : decode gm_c23 143 = .ok (.istore_n 3, 1) := by decide +kernel
theorem gd_23_144 : decode gm_c23 144 = .ok (.aload_n 0, 1) := by decide +kernel
theorem gd_23_145 : decode gm_c23 145 = .ok (.getfield 32, 3) := by decide +kernel
theorem gd_23_148 : decode gm_c23 148 = .ok (.iload_n 1, 1) := by decide +kernel
theorem gd_23_149 : decode gm_c23 149 = .ok (.iaload, 1) := by decide +kernel
theorem gd_23_150 : decode gm_c23 150 = .ok (.istore 4, 2) := by decide +kernel
theorem gd_23_152 : decode gm_c23 152 = .ok (.iload 4, 2) := by decide +kernel
theorem gd_23_154 : decode gm_c23 154 = .ok (.ifCond .lt (41), 3) := by decide +kernel
theorem gd_23_157 : decode gm_c23 157 = .ok (.iload_n 2, 1) := by decide +kernel
theorem gd_23_158 : decode gm_c23 158 = .ok (.bipush (10), 2) := by decide +kernel
theorem gd_23_160 : decode gm_c23 160 = .ok (.if_icmp .ne (35), 3) := by decide +kernel
theorem gd_23_163 : decode gm_c23 163 = .ok (.iload_n 3, 1) := by decide +kernel
theorem gd_23_164 : decode gm_c23 164 = .ok (.ifCond .ne (13), 3) := by decide +kernel
theorem gd_23_167 : decode gm_c23 167 = .ok (.aload_n 0, 1) := by decide +kernel
theorem gd_23_168 : decode gm_c23 168 = .ok (.getfield 44, 3) := by decide +kernel
theorem gd_23_171 : decode gm_c23 171 = .ok (.iload 4, 2) := by decide +kernel
theorem gd_23_173 : decode gm_c23 173 = .ok (.baload, 1) := by decide +kernel
theorem gd_23_174 : decode gm_c23 174 = .ok (.ifCond .eq (7), 3) := by decide +kernel
theorem gd_23_177 : decode gm_c23 177 = .ok (.iconst 1, 1) := by decide +kernel
theorem gd_23_178 : decode gm_c23 178 = .ok (.goto (4), 3) := by decide +kernel
theorem gd_23_181 : decode gm_c23 181 = .ok (.iconst 0, 1) := by decide +kernel
theorem gd_23_182 : decode gm_c23 182 = .ok (.istore_n 3, 1) := by decide +kernel
theorem gd_23_183 : decode gm_c23 183 = .ok (.aload_n 0, 1) := by decide +kernel
theorem gd_23_184 : decode gm_c23 184 = .ok (.getfield 38, 3) := by decide +kernel
theorem gd_23_187 : decode gm_c23 187 = .ok (.iload 4, 2) := by decide +kernel
theorem gd_23_189 : decode gm_c23 189 = .ok (.iaload, 1) := by decide +kernel
theorem gd_23_190 : decode gm_c23 190 = .ok (.istore 4, 2) := by decide +kernel
theorem gd_23_192 : decode gm_c23 192 = .ok (.goto (-40), 3) := by decide +kernel
theorem gd_23_195 : decode gm_c23 195 = .ok (.iload_n 3, 1) := by decide +kernel
theorem gd_23_196 : decode gm_c23 196 = .ok (.ireturn, 1) := by decide +kernel
theorem gd_24_0 : decode gm_c24 0 = .ok (.aload_n 0, 1) := by decide +kernel
theorem gd_24_1 : decode gm_c24 1 = .ok (.getfield 29, 3) := by decide +kernel
theorem gd_24_4 : decode gm_c24 4 = .ok (.iload_n 1, 1) := by decide +kernel
theorem gd_24_5 : decode gm_c24 5 = .ok (.iaload, 1) := by decide +kernel
theorem gd_24_6 : decode gm_c24 6 = .ok (.istore_n 2, 1) := by decide +kernel
theorem gd_24_7 : decode gm_c24 7 = .ok (.iload_n 2, 1) := by decide +kernel
theorem gd_24_8 : decode gm_c24 8 = .ok (.ifCond .eq (8), 3) := by decide +kernel
theorem gd_24_11 : decode gm_c24 11 = .ok (.iload_n 2, 1) := by decide +kernel
theorem gd_24_12 : decode gm_c24 12 = .ok (.iconst 2, 1) := by decide +kernel
theorem gd_24_13 : decode gm_c24 13 = .ok (.if_icmp .ne (5), 3) := by decide +kernel
theorem gd_24_16 : decode gm_c24 16 = .ok (.iconst 0, 1) := by decide +kernel
theorem gd_24_17 : decode gm_c24 17 = .ok (.ireturn, 1) := by decide +kernel
theorem gd_24_18 : decode gm_c24 18 = .ok (.iload_n 2, 1) := by decide +kernel
theorem gd_24_19 : decode gm_c24 19 = .ok (.iconst 1, 1) := by decide +kernel
theorem gd_24_20 : decode gm_c24 20 = .ok (.if_icmp .ne (12), 3) := by decide +kernel
theorem gd_24_23 : decode gm_c24 23 = .ok (.iconst 1, 1) := by decide +kernel
theorem gd_24_24 : decode gm_c24 24 = .ok (.aload_n 0, 1) := by decide +kernel
theorem gd_24_25 : decode gm_c24 25 = .ok (.getfield 32, 3) := by decide +kernel
theorem gd_24_28 : decode gm_c24 28 = .ok (.iload_n 1, 1) := by decide +kernel
theorem gd_24_29 : decode gm_c24 29 = .ok (.iaload, 1) := by decide +kernel
theorem gd_24_30 : decode gm_c24 30 = .ok (.ishl, 1) := by decide +kernel
theorem gd_24_31 : decode gm_c24 31 = .ok (.ireturn, 1) := by decide +kernel
theorem gd_24_32 : decode gm_c24 32 = .ok (.iload_n 2, 1) := by decide +kernel
theorem gd_24_33 : decode gm_c24 33 = .ok (.bipush (9), 2) := by decide +kernel
theorem gd_24_35 : decode gm_c24 35 = .ok (.if_icmp .ge (15), 3) := by decide +kernel
theorem gd_24_38 : decode gm_c24 38 = .ok (.aload_n 0, 1) := by decide +kernel
theorem gd_24_39 : decode gm_c24 39 = .ok (.getfield 47, 3) := by decide +kernel
theorem gd_24_42 : decode gm_c24 42 = .ok (.aload_n 0, 1) := by decide +kernel
theorem gd_24_43 : decode gm_c24 43 = .ok (.getfield 32, 3) := by decide +kernel
theorem gd_24_46 : decode gm_c24 46 = .ok (.iload_n 1, 1) := by decide +kernel
theorem gd_24_47 : decode gm_c24 47 = .ok (.iaload, 1) := by decide +kernel
theorem gd_24_48 : decode gm_c24 48 = .ok (.iaload, 1) := by decide +kernel
theorem gd_24_49 : decode gm_c24 49 = .ok (.ireturn, 1) := by decide +kernel
theorem gd_24_50 : decode gm_c24 50 = .ok (.iconst 0, 1) := by decide +kernel
theorem gd_24_51 : decode gm_c24 51 = .ok (.istore_n 3, 1) := by decide +kernel
theorem gd_24_52 : decode gm_c24 52 = .ok (.iconst 1, 1) := by decide +kernel
theorem gd_24_53 : decode gm_c24 53 = .ok (.istore 4, 2) := by decide +kernel
theorem gd_24_55 : decode gm_c24 55 = .ok (.aload_n 0, 1) := by decide +kernel
theorem gd_24_56 : decode gm_c24 56 = .ok (.getfield 32, 3) := by decide +kernel
theorem gd_24_59 : decode gm_c24 59 = .ok (.iload_n 1, 1) := by decide +kernel
theorem gd_24_60 : decode gm_c24 60 = .ok (.iaload, 1) := by decide +kernel
theorem gd_24_61 : decode gm_c24 61 = .ok (.istore 5, 2) := by decide +kernel
theorem gd_24_63 : decode gm_c24 63 = .ok (.iload 5, 2) := by decide +kernel
theorem gd_24_65 : decode gm_c24 65 = .ok (.ifCond .lt (53), 3) := by decide +kernel
theorem gd_24_68 : decode gm_c24 68 = .ok (.iload 4, 2) := by decide +kernel
theorem gd_24_70 : decode gm_c24 70 = .ok (.ifCond .eq (48), 3) := by decide +kernel
theorem gd_24_73 : decode gm_c24 73 = .ok (.iload_n 3, 1) := by decide +kernel
theorem gd_24_74 : decode gm_c24 74 = .ok (.aload_n 0, 1) := by decide +kernel
theorem gd_24_75 : decode gm_c24 75 = .ok (.getfield 47, 3) := by decide +kernel
theorem gd_24_78 : decode gm_c24 78 = .ok (.iload 5, 2) := by decide +kernel
theorem gd_24_80 : decode gm_c24 80 = .ok (.iaload, 1) := by decide +kernel
theorem gd_24_81 : decode gm_c24 81 = .ok (.ior, 1) := by decide +kernel
theorem gd_24_82 : decode gm_c24 82 = .ok (.istore_n 3, 1) := by decide +kernel
theorem gd_24_83 : decode gm_c24 83 = .ok (.iload_n 2, 1) := by decide +kernel
theorem gd_24_84 : decode gm_c24 84 = .ok (.bipush (10), 2) := by decide +kernel
theorem gd_24_86 : decode gm_c24 86 = .ok (.if_icmp .eq (13), 3) := by decide +kernel
theorem gd_24_89 : decode gm_c24 89 = .ok (.aload_n 0, 1) := by decide +kernel
theorem gd_24_90 : decode gm_c24 90 = .ok (.getfield 44, 3) := by decide +kernel
theorem gd_24_93 : decode gm_c24 93 = .ok (.iload 5, 2) := by decide +kernel
theorem gd_24_95 : decode gm_c24 95 = .ok (.baload, 1) := by decide +kernel
theorem gd_24_96 : decode gm_c24 96 = .ok (.ifCond .eq (7), 3) := by decide +kernel
theorem gd_24_99 : decode gm_c24 99 = .ok (.iconst 1, 1) := by decide +kernel
theorem gd_24_100 : decode gm_c24 100 = .ok (.goto (4), 3) := by decide +kernel
theorem gd_24_103 : decode gm_c24 103 = .ok (.iconst 0, 1) := by decide +kernel
theorem gd_24_104 : decode gm_c24 104 = .ok (.istore 4, 2) := by decide +kernel
theorem gd_24_106 : decode gm_c24 106 = .ok (.aload_n 0, 1) := by decide +kernel
theorem gd_24_107 : decode gm_c24 107 = .ok (.getfield 38, 3) := by decide +kernel
theorem gd_24_110 : decode gm_c24 110 = .ok (.iload 5, 2) := by decide +kernel
theorem gd_24_112 : decode gm_c24 112 = .ok (.iaload, 1) := by decide +kernel
theorem gd_24_113 : decode gm_c24 113 = .ok (.istore 5, 2) := by decide +kernel
theorem gd_24_115 : decode gm_c24 115 = .ok (.goto (-52), 3) := by decide +kernel
theorem gd_24_118 : decode gm_c24 118 = .ok (.iload_n 3, 1) := by decide +kernel
theorem gd_24_119 : decode gm_c24 119 = .ok (.ireturn, 1) := by decide +kernel
theorem gd_25_0 : decode gm_c25 0 = .ok (.iconst 0, 1) := by decide +kernel
theorem gd_25_1 : decode gm_c25 1 = .ok (.istore_n 1, 1) := by decide +kernel
theorem gd_25_2 : decode gm_c25 2 = .ok (.iload_n 1, 1) := by decide +kernel
theorem gd_25_3 : decode gm_c25 3 = .ok (.sipush (200), 3) := by decide +kernel
theorem gd_25_6 : decode gm_c25 6 = .ok (.if_icmp .ge (23), 3) := by decide +kernel
theorem gd_25_9 : decode gm_c25 9 = .ok (.aload_n 0, 1) := by decide +kernel
theorem gd_25_10 : decode gm_c25 10 = .ok (.getfield 44, 3) := by decide +kernel
theorem gd_25_13 : decode gm_c25 13 = .ok (.iload_n 1, 1) := by decide +kernel
theorem gd_25_14 : decode gm_c25 14 = .ok (.iconst 0, 1) := by decide +kernel
theorem gd_25_15 : decode gm_c25 15 = .ok (.bastore, 1) := by decide +kernel
theorem gd_25_16 : decode gm_c25 16 = .ok (.aload_n 0, 1) := by decide +kernel
theorem gd_25_17 : decode gm_c25 17 = .ok (.getfield 47, 3) := by decide +kernel
theorem gd_25_20 : decode gm_c25 20 = .ok (.iload_n 1, 1) := by decide +kernel
theorem gd_25_21 : decode gm_c25 21 = .ok (.iconst 0, 1) := by decide +kernel
theorem gd_25_22 : decode gm_c25 22 = .ok (.iastore, 1) := by decide +kernel
end
section
theorem gd_25_23 : decode gm_c25 23 = .ok (.iinc 1 (1), 3) := by decide +kernel
theorem gd_25_26 : decode gm_c25 26 = .ok (.goto (-24), 3) := by decide +kernel
theorem gd_25_29 : decode gm_c25 29 = .ok (.iconst 1, 1) := by decide +kernel
theorem gd_25_30 : decode gm_c25 30 = .ok (.istore_n 1, 1) := by decide +kernel
theorem gd_25_31 : decode gm_c25 31 = .ok (.iload_n 1, 1) := by decide +kernel
theorem gd_25_32 : decode gm_c25 32 = .ok (.ifCond .eq (89), 3) := by decide +kernel
theorem gd_25_35 : decode gm_c25 35 = .ok (.iconst 0, 1) := by decide +kernel
theorem gd_25_36 : decode gm_c25 36 = .ok (.istore_n 1, 1) := by decide +kernel
theorem gd_25_37 : decode gm_c25 37 = .ok (.sipush (159), 3) := by decide +kernel
theorem gd_25_40 : decode gm_c25 40 = .ok (.istore_n 2, 1) := by decide +kernel
theorem gd_25_41 : decode gm_c25 41 = .ok (.iload_n 2, 1) := by decide +kernel
theorem gd_25_42 : decode gm_c25 42 = .ok (.ifCond .lt (76), 3) := by decide +kernel
theorem gd_25_45 : decode gm_c25 45 = .ok (.aload_n 0, 1) := by decide +kernel
theorem gd_25_46 : decode gm_c25 46 = .ok (.iload_n 2, 1) := by decide +kernel
theorem gd_25_47 : decode gm_c25 47 = .ok (.invokevirtual 158, 3) := by decide +kernel
theorem gd_25_50 : decode gm_c25 50 = .ok (.ifCond .eq (62), 3) := by decide +kernel
theorem gd_25_53 : decode gm_c25 53 = .ok (.aload_n 0, 1) := by decide +kernel
theorem gd_25_54 : decode gm_c25 54 = .ok (.iload_n 2, 1) := by decide +kernel
theorem gd_25_55 : decode gm_c25 55 = .ok (.invokevirtual 161, 3) := by decide +kernel
theorem gd_25_58 : decode gm_c25 58 = .ok (.istore_n 3, 1) := by decide +kernel
theorem gd_25_59 : decode gm_c25 59 = .ok (.aload_n 0, 1) := by decide +kernel
theorem gd_25_60 : decode gm_c25 60 = .ok (.iload_n 2, 1) := by decide +kernel
theorem gd_25_61 : decode gm_c25 61 = .ok (.invokevirtual 164, 3) := by decide +kernel
theorem gd_25_64 : decode gm_c25 64 = .ok (.istore 4, 2) := by decide +kernel
theorem gd_25_66 : decode gm_c25 66 = .ok (.iload_n 1, 1) := by decide +kernel
theorem gd_25_67 : decode gm_c25 67 = .ok (.ifCond .ne (24), 3) := by decide +kernel
theorem gd_25_70 : decode gm_c25 70 = .ok (.iload_n 3, 1) := by decide +kernel
theorem gd_25_71 : decode gm_c25 71 = .ok (.aload_n 0, 1) := by decide +kernel
theorem gd_25_72 : decode gm_c25 72 = .ok (.getfield 44, 3) := by decide +kernel
theorem gd_25_75 : decode gm_c25 75 = .ok (.iload_n 2, 1) := by decide +kernel
theorem gd_25_76 : decode gm_c25 76 = .ok (.baload, 1) := by decide +kernel
theorem gd_25_77 : decode gm_c25 77 = .ok (.if_icmp .ne (14), 3) := by decide +kernel
theorem gd_25_80 : decode gm_c25 80 = .ok (.iload 4, 2) := by decide +kernel
theorem gd_25_82 : decode gm_c25 82 = .ok (.aload_n 0, 1) := by decide +kernel
theorem gd_25_83 : decode gm_c25 83 = .ok (.getfield 47, 3) := by decide +kernel
theorem gd_25_86 : decode gm_c25 86 = .ok (.iload_n 2, 1) := by decide +kernel
theorem gd_25_87 : decode gm_c25 87 = .ok (.iaload, 1) := by decide +kernel
theorem gd_25_88 : decode gm_c25 88 = .ok (.if_icmp .eq (7), 3) := by decide +kernel
theorem gd_25_91 : decode gm_c25 91 = .ok (.iconst 1, 1) := by decide +kernel
theorem gd_25_92 : decode gm_c25 92 = .ok (.goto (4), 3) := by decide +kernel
theorem gd_25_95 : decode gm_c25 95 = .ok (.iconst 0, 1) := by decide +kernel
theorem gd_25_96 : decode gm_c25 96 = .ok (.istore_n 1, 1) := by decide +kernel
theorem gd_25_97 : decode gm_c25 97 = .ok (.aload_n 0, 1) := by decide +kernel
theorem gd_25_98 : decode gm_c25 98 = .ok (.getfield 44, 3) := by decide +kernel
theorem gd_25_101 : decode gm_c25 101 = .ok (.iload_n 2, 1) := by decide +kernel
theorem gd_25_102 : decode gm_c25 102 = .ok (.iload_n 3, 1) := by decide +kernel
theorem gd_25_103 : decode gm_c25 103 = .ok (.bastore, 1) := by decide +kernel
theorem gd_25_104 : decode gm_c25 104 = .ok (.aload_n 0, 1) := by decide +kernel
theorem gd_25_105 : decode gm_c25 105 = .ok (.getfield 47, 3) := by decide +kernel
theorem gd_25_108 : decode gm_c25 108 = .ok (.iload_n 2, 1) := by decide +kernel
theorem gd_25_109 : decode gm_c25 109 = .ok (.iload 4, 2) := by decide +kernel
theorem gd_25_111 : decode gm_c25 111 = .ok (.iastore, 1) := by decide +kernel
theorem gd_25_112 : decode gm_c25 112 = .ok (.iinc 2 (-1), 3) := by decide +kernel
theorem gd_25_115 : decode gm_c25 115 = .ok (.goto (-74), 3) := by decide +kernel
theorem gd_25_118 : decode gm_c25 118 = .ok (.goto (-87), 3) := by decide +kernel
theorem gd_25_121 : decode gm_c25 121 = .ok (.iconst 0, 1) := by decide +kernel
theorem gd_25_122 : decode gm_c25 122 = .ok (.istore_n 2, 1) := by decide +kernel
theorem gd_25_123 : decode gm_c25 123 = .ok (.iload_n 2, 1) := by decide +kernel
theorem gd_25_124 : decode gm_c25 124 = .ok (.iconst 4, 1) := by decide +kernel
theorem gd_25_125 : decode gm_c25 125 = .ok (.if_icmp .ge (86), 3) := by decide +kernel
theorem gd_25_128 : decode gm_c25 128 = .ok (.aload_n 0, 1) := by decide +kernel
theorem gd_25_129 : decode gm_c25 129 = .ok (.getfield 50, 3) := by decide +kernel
theorem gd_25_132 : decode gm_c25 132 = .ok (.iload_n 2, 1) := by decide +kernel
theorem gd_25_133 : decode gm_c25 133 = .ok (.iconst 0, 1) := by decide +kernel
theorem gd_25_134 : decode gm_c25 134 = .ok (.iastore, 1) := by decide +kernel
theorem gd_25_135 : decode gm_c25 135 = .ok (.bipush (40), 2) := by decide +kernel
theorem gd_25_137 : decode gm_c25 137 = .ok (.iload_n 2, 1) := by decide +kernel
theorem gd_25_138 : decode gm_c25 138 = .ok (.imul, 1) := by decide +kernel
theorem gd_25_139 : decode gm_c25 139 = .ok (.istore_n 3, 1) := by decide +kernel
theorem gd_25_140 : decode gm_c25 140 = .ok (.iload_n 3, 1) := by decide +kernel
theorem gd_25_141 : decode gm_c25 141 = .ok (.bipush (40), 2) := by decide +kernel
theorem gd_25_143 : decode gm_c25 143 = .ok (.iload_n 2, 1) := by decide +kernel
theorem gd_25_144 : decode gm_c25 144 = .ok (.imul, 1) := by decide +kernel
theorem gd_25_145 : decode gm_c25 145 = .ok (.bipush (40), 2) := by decide +kernel
theorem gd_25_147 : decode gm_c25 147 = .ok (.iadd, 1) := by decide +kernel
theorem gd_25_148 : decode gm_c25 148 = .ok (.if_icmp .ge (57), 3) := by decide +kernel
theorem gd_25_151 : decode gm_c25 151 = .ok (.aload_n 0, 1) := by decide +kernel
theorem gd_25_152 : decode gm_c25 152 = .ok (.getfield 50, 3) := by decide +kernel
theorem gd_25_155 : decode gm_c25 155 = .ok (.iload_n 2, 1) := by decide +kernel
theorem gd_25_156 : decode gm_c25 156 = .ok (.aload_n 0, 1) := by decide +kernel
theorem gd_25_157 : decode gm_c25 157 = .ok (.iload_n 3, 1) := by decide +kernel
theorem gd_25_158 : decode gm_c25 158 = .ok (.invokevirtual 158, 3) := by decide +kernel
theorem gd_25_161 : decode gm_c25 161 = .ok (.ifCond .eq (31), 3) := by decide +kernel
theorem gd_25_164 : decode gm_c25 164 = .ok (.aload_n 0, 1) := by decide +kernel
theorem gd_25_165 : decode gm_c25 165 = .ok (.getfield 29, 3) := by decide +kernel
theorem gd_25_168 : decode gm_c25 168 = .ok (.iload_n 3, 1) := by decide +kernel
theorem gd_25_169 : decode gm_c25 169 = .ok (.iaload, 1) := by decide +kernel
theorem gd_25_170 : decode gm_c25 170 = .ok (.iconst 1, 1) := by decide +kernel
theorem gd_25_171 : decode gm_c25 171 = .ok (.if_icmp .ne (21), 3) := by decide +kernel
theorem gd_25_174 : decode gm_c25 174 = .ok (.aload_n 0, 1) := by decide +kernel
theorem gd_25_175 : decode gm_c25 175 = .ok (.getfield 50, 3) := by decide +kernel
theorem gd_25_178 : decode gm_c25 178 = .ok (.iload_n 2, 1) := by decide +kernel
theorem gd_25_179 : decode gm_c25 179 = .ok (.iaload, 1) := by decide +kernel
theorem gd_25_180 : decode gm_c25 180 = .ok (.iconst 1, 1) := by decide +kernel
theorem gd_25_181 : decode gm_c25 181 = .ok (.aload_n 0, 1) := by decide +kernel
theorem gd_25_182 : decode gm_c25 182 = .ok (.getfield 32, 3) := by decide +kernel
theorem gd_25_185 : decode gm_c25 185 = .ok (.iload_n 3, 1) := by decide +kernel
theorem gd_25_186 : decode gm_c25 186 = .ok (.iaload, 1) := by decide +kernel
theorem gd_25_187 : decode gm_c25 187 = .ok (.ishl, 1) := by decide +kernel
theorem gd_25_188 : decode gm_c25 188 = .ok (.ior, 1) := by decide +kernel
theorem gd_25_189 : decode gm_c25 189 = .ok (.goto (9), 3) := by decide +kernel
theorem gd_25_192 : decode gm_c25 192 = .ok (.aload_n 0, 1) := by decide +kernel
theorem gd_25_193 : decode gm_c25 193 = .ok (.getfield 50, 3) := by decide +kernel
theorem gd_25_196 : decode gm_c25 196 = .ok (.iload_n 2, 1) := by decide +kernel
theorem gd_25_197 : decode gm_c25 197 = .ok (.iaload, 1) := by decide +kernel
theorem gd_25_198 : decode gm_c25 198 = .ok (.iastore, 1) := by decide +kernel
theorem gd_25_199 : decode gm_c25 199 = .ok (.iinc 3 (1), 3) := by decide +kernel
theorem gd_25_202 : decode gm_c25 202 = .ok (.goto (-62), 3) := by decide +kernel
theorem gd_25_205 : decode gm_c25 205 = .ok (.iinc 2 (1), 3) := by decide +kernel
theorem gd_25_208 : decode gm_c25 208 = .ok (.goto (-85), 3) := by decide +kernel
theorem gd_25_211 : decode gm_c25 211 = .ok (.return_, 1) := by decide +kernel
theorem gd_26_0 : decode gm_c26 0 = .ok (.iload_n 1, 1) := by decide +kernel
theorem gd_26_1 : decode gm_c26 1 = .ok (.istore_n 3, 1) := by decide +kernel
theorem gd_26_2 : decode gm_c26 2 = .ok (.iconst 0, 1) := by decide +kernel
theorem gd_26_3 : decode gm_c26 3 = .ok (.istore 4, 2) := by decide +kernel
theorem gd_26_5 : decode gm_c26 5 = .ok (.iload 4, 2) := by decide +kernel
theorem gd_26_7 : decode gm_c26 7 = .ok (.iconst 4, 1) := by decide +kernel
theorem gd_26_8 : decode gm_c26 8 = .ok (.if_icmp .ge (71), 3) := by decide +kernel
theorem gd_26_11 : decode gm_c26 11 = .ok (.iconst 0, 1) := by decide +kernel
theorem gd_26_12 : decode gm_c26 12 = .ok (.istore 5, 2) := by decide +kernel
theorem gd_26_14 : decode gm_c26 14 = .ok (.iload 5, 2) := by decide +kernel
theorem gd_26_16 : decode gm_c26 16 = .ok (.iconst 4, 1) := by decide +kernel
theorem gd_26_17 : decode gm_c26 17 = .ok (.if_icmp .ge (56), 3) := by decide +kernel
theorem gd_26_20 : decode gm_c26 20 = .ok (.iload_n 3, 1) := by decide +kernel
theorem gd_26_21 : decode gm_c26 21 = .ok (.iload 5, 2) := by decide +kernel
theorem gd_26_23 : decode gm_c26 23 = .ok (.ishr, 1) := by decide +kernel
theorem gd_26_24 : decode gm_c26 24 = .ok (.iconst 1, 1) := by decide +kernel
theorem gd_26_25 : decode gm_c26 25 = .ok (.iand, 1) := by decide +kernel
theorem gd_26_26 : decode gm_c26 26 = .ok (.iconst 1, 1) := by decide +kernel
theorem gd_26_27 : decode gm_c26 27 = .ok (.if_icmp .ne (40), 3) := by decide +kernel
theorem gd_26_30 : decode gm_c26 30 = .ok (.aload_n 0, 1) := by decide +kernel
theorem gd_26_31 : decode gm_c26 31 = .ok (.getfield 16, 3) := by decide +kernel
theorem gd_26_34 : decode gm_c26 34 = .ok (.iload 5, 2) := by decide +kernel
theorem gd_26_36 : decode gm_c26 36 = .ok (.baload, 1) := by decide +kernel
theorem gd_26_37 : decode gm_c26 37 = .ok (.ifCond .eq (30), 3) := by decide +kernel
theorem gd_26_40 : decode gm_c26 40 = .ok (.iload_n 3, 1) := by decide +kernel
theorem gd_26_41 : decode gm_c26 41 = .ok (.iload_n 2, 1) := by decide +kernel
theorem gd_26_42 : decode gm_c26 42 = .ok (.ifCond .ne (13), 3) := by decide +kernel
theorem gd_26_45 : decode gm_c26 45 = .ok (.aload_n 0, 1) := by decide +kernel
theorem gd_26_46 : decode gm_c26 46 = .ok (.getfield 50, 3) := by decide +kernel
theorem gd_26_49 : decode gm_c26 49 = .ok (.iload 5, 2) := by decide +kernel
theorem gd_26_51 : decode gm_c26 51 = .ok (.iaload, 1) := by decide +kernel
theorem gd_26_52 : decode gm_c26 52 = .ok (.goto (13), 3) := by decide +kernel
theorem gd_26_55 : decode gm_c26 55 = .ok (.aload_n 0, 1) := by decide +kernel
theorem gd_26_56 : decode gm_c26 56 = .ok (.getfield 47, 3) := by decide +kernel
theorem gd_26_59 : decode gm_c26 59 = .ok (.bipush (40), 2) := by decide +kernel
theorem gd_26_61 : decode gm_c26 61 = .ok (.iload 5, 2) := by decide +kernel
theorem gd_26_63 : decode gm_c26 63 = .ok (.imul, 1) := by decide +kernel
theorem gd_26_64 : decode gm_c26 64 = .ok (.iaload, 1) := by decide +kernel
theorem gd_26_65 : decode gm_c26 65 = .ok (.ior, 1) := by decide +kernel
theorem gd_26_66 : decode gm_c26 66 = .ok (.istore_n 3, 1) := by decide +kernel
theorem gd_26_67 : decode gm_c26 67 = .ok (.iinc 5 (1), 3) := by decide +kernel
theorem gd_26_70 : decode gm_c26 70 = .ok (.goto (-56), 3) := by decide +kernel
theorem gd_26_73 : decode gm_c26 73 = .ok (.iinc 4 (1), 3) := by decide +kernel
theorem gd_26_76 : decode gm_c26 76 = .ok (.goto (-71), 3) := by decide +kernel
theorem gd_26_79 : decode gm_c26 79 = .ok (.iload_n 3, 1) := by decide +kernel
theorem gd_26_80 : decode gm_c26 80 = .ok (.ireturn, 1) := by decide +kernel
theorem gd_27_0 : decode gm_c27 0 = .ok (.aload_n 0, 1) := by decide +kernel
theorem gd_27_1 : decode gm_c27 1 = .ok (.invokevirtual 167, 3) := by decide +kernel
theorem gd_27_4 : decode gm_c27 4 = .ok (.aload_n 0, 1) := by decide +kernel
theorem gd_27_5 : decode gm_c27 5 = .ok (.iconst 1, 1) := by decide +kernel
theorem gd_27_6 : decode gm_c27 6 = .ok (.iload_n 1, 1) := by decide +kernel
theorem gd_27_7 : decode gm_c27 7 = .ok (.ishl, 1) := by decide +kernel
theorem gd_27_8 : decode gm_c27 8 = .ok (.iconst 0, 1) := by decide +kernel
theorem gd_27_9 : decode gm_c27 9 = .ok (.invokevirtual 170, 3) := by decide +kernel
theorem gd_27_12 : decode gm_c27 12 = .ok (.istore_n 2, 1) := by decide +kernel
theorem gd_27_13 : decode gm_c27 13 = .ok (.iconst 0, 1) := by decide +kernel
theorem gd_27_14 : decode gm_c27 14 = .ok (.istore_n 3, 1) := by decide +kernel
theorem gd_27_15 : decode gm_c27 15 = .ok (.iconst 0, 1) := by decide +kernel
theorem gd_27_16 : decode gm_c27 16 = .ok (.istore 4, 2) := by decide +kernel
theorem gd_27_18 : decode gm_c27 18 = .ok (.iconst 0, 1) := by decide +kernel
theorem gd_27_19 : decode gm_c27 19 = .ok (.istore 5, 2) := by decide +kernel
theorem gd_27_21 : decode gm_c27 21 = .ok (.iconst 0, 1) := by decide +kernel
theorem gd_27_22 : decode gm_c27 22 = .ok (.istore 6, 2) := by decide +kernel
theorem gd_27_24 : decode gm_c27 24 = .ok (.iload 6, 2) := by decide +kernel
theorem gd_27_26 : decode gm_c27 26 = .ok (.iconst 4, 1) := by decide +kernel
theorem gd_27_27 : decode gm_c27 27 = .ok (.if_icmp .ge (169), 3) := by decide +kernel
theorem gd_27_30 : decode gm_c27 30 = .ok (.iload_n 2, 1) := by decide +kernel
theorem gd_27_31 : decode gm_c27 31 = .ok (.iload 6, 2) := by decide +kernel
theorem gd_27_33 : decode gm_c27 33 = .ok (.ishr, 1) := by decide +kernel
theorem gd_27_34 : decode gm_c27 34 = .ok (.iconst 1, 1) := by decide +kernel
theorem gd_27_35 : decode gm_c27 35 = .ok (.iand, 1) := by decide +kernel
theorem gd_27_36 : decode gm_c27 36 = .ok (.iconst 1, 1) := by decide +kernel
theorem gd_27_37 : decode gm_c27 37 = .ok (.if_icmp .ne (153), 3) := by decide +kernel
theorem gd_27_40 : decode gm_c27 40 = .ok (.iload_n 3, 1) := by decide +kernel
theorem gd_27_41 : decode gm_c27 41 = .ok (.ifCond .ne (13), 3) := by decide +kernel
theorem gd_27_44 : decode gm_c27 44 = .ok (.aload_n 0, 1) := by decide +kernel
theorem gd_27_45 : decode gm_c27 45 = .ok (.getfield 16, 3) := by decide +kernel
theorem gd_27_48 : decode gm_c27 48 = .ok (.iload 6, 2) := by decide +kernel
theorem gd_27_50 : decode gm_c27 50 = .ok (.baload, 1) := by decide +kernel
theorem gd_27_51 : decode gm_c27 51 = .ok (.ifCond .ne (7), 3) := by decide +kernel
theorem gd_27_54 : decode gm_c27 54 = .ok (.iconst 1, 1) := by decide +kernel
theorem gd_27_55 : decode gm_c27 55 = .ok (.goto (4), 3) := by decide +kernel
theorem gd_27_58 : decode gm_c27 58 = .ok (.iconst 0, 1) := by decide +kernel
theorem gd_27_59 : decode gm_c27 59 = .ok (.istore_n 3, 1) := by decide +kernel
theorem gd_27_60 : decode gm_c27 60 = .ok (.iload 4, 2) := by decide +kernel
theorem gd_27_62 : decode gm_c27 62 = .ok (.ifCond .ne (37), 3) := by decide +kernel
theorem gd_27_65 : decode gm_c27 65 = .ok (.aload_n 0, 1) := by decide +kernel
theorem gd_27_66 : decode gm_c27 66 = .ok (.getfield 16, 3) := by decide +kernel
theorem gd_27_69 : decode gm_c27 69 = .ok (.iload 6, 2) := by decide +kernel
theorem gd_27_71 : decode gm_c27 71 = .ok (.baload, 1) := by decide +kernel
theorem gd_27_72 : decode gm_c27 72 = .ok (.ifCond .eq (31), 3) := by decide +kernel
theorem gd_27_75 : decode gm_c27 75 = .ok (.aload_n 0, 1) := by decide +kernel
theorem gd_27_76 : decode gm_c27 76 = .ok (.aload_n 0, 1) := by decide +kernel
theorem gd_27_77 : decode gm_c27 77 = .ok (.getfield 47, 3) := by decide +kernel
theorem gd_27_80 : decode gm_c27 80 = .ok (.bipush (40), 2) := by decide +kernel
theorem gd_27_82 : decode gm_c27 82 = .ok (.iload 6, 2) := by decide +kernel
theorem gd_27_84 : decode gm_c27 84 = .ok (.imul, 1) := by decide +kernel
theorem gd_27_85 : decode gm_c27 85 = .ok (.iaload, 1) := by decide +kernel
theorem gd_27_86 : decode gm_c27 86 = .ok (.iconst 1, 1) := by decide +kernel
theorem gd_27_87 : decode gm_c27 87 = .ok (.invokevirtual 170, 3) := by decide +kernel
theorem gd_27_90 : decode gm_c27 90 = .ok (.iload 6, 2) := by decide +kernel
theorem gd_27_92 : decode gm_c27 92 = .ok (.ishr, 1) := by decide +kernel
theorem gd_27_93 : decode gm_c27 93 = .ok (.iconst 1, 1) := by decide +kernel
theorem gd_27_94 : decode gm_c27 94 = .ok (.iand, 1) := by decide +kernel
theorem gd_27_95 : decode gm_c27 95 = .ok (.iconst 1, 1) := by decide +kernel
theorem gd_27_96 : decode gm_c27 96 = .ok (.if_icmp .ne (7), 3) := by decide +kernel
theorem gd_27_99 : decode gm_c27 99 = .ok (.iconst 1, 1) := by decide +kernel
theorem gd_27_100 : decode gm_c27 100 = .ok (.goto (4), 3) := by decide +kernel
theorem gd_27_103 : decode gm_c27 103 = .ok (.iconst 0, 1) := by decide +kernel
theorem gd_27_104 : decode gm_c27 104 = .ok (.istore 4, 2) := by decide +kernel
theorem gd_27_106 : decode gm_c27 106 = .ok (.bipush (40), 2) := by decide +kernel
theorem gd_27_108 : decode gm_c27 108 = .ok (.iload 6, 2) := by decide +kernel
theorem gd_27_110 : decode gm_c27 110 = .ok (.imul, 1) := by decide +kernel
theorem gd_27_111 : decode gm_c27 111 = .ok (.istore 7, 2) := by decide +kernel
theorem gd_27_113 : decode gm_c27 113 = .ok (.iload 7, 2) := by decide +kernel
theorem gd_27_115 : decode gm_c27 115 = .ok (.bipush (40), 2) := by decide +kernel
theorem gd_27_117 : decode gm_c27 117 = .ok (.iload 6, 2) := by decide +kernel
theorem gd_27_119 : decode gm_c27 119 = .ok (.imul, 1) := by decide +kernel
theorem gd_27_120 : decode gm_c27 120 = .ok (.bipush (40), 2) := by decide +kernel
theorem gd_27_122 : decode gm_c27 122 = .ok (.iadd, 1) := by decide +kernel
theorem gd_27_123 : decode gm_c27 123 = .ok (.if_icmp .ge (67), 3) := by decide +kernel
theorem gd_27_126 : decode gm_c27 126 = .ok (.iload 5, 2) := by decide +kernel
theorem gd_27_128 : decode gm_c27 128 = .ok (.ifCond .ne (49), 3) := by decide +kernel
theorem gd_27_131 : decode gm_c27 131 = .ok (.aload_n 0, 1) := by decide +kernel
theorem gd_27_132 : decode gm_c27 132 = .ok (.iload 7, 2) := by decide +kernel
theorem gd_27_134 : decode gm_c27 134 = .ok (.invokevirtual 158, 3) := by decide +kernel
theorem gd_27_137 : decode gm_c27 137 = .ok (.ifCond .eq (44), 3) := by decide +kernel
theorem gd_27_140 : decode gm_c27 140 = .ok (.aload_n 0, 1) := by decide +kernel
theorem gd_27_141 : decode gm_c27 141 = .ok (.getfield 29, 3) := by decide +kernel
theorem gd_27_144 : decode gm_c27 144 = .ok (.iload 7, 2) := by decide +kernel
theorem gd_27_146 : decode gm_c27 146 = .ok (.iaload, 1) := by decide +kernel
theorem gd_27_147 : decode gm_c27 147 = .ok (.iconst 4, 1) := by decide +kernel
theorem gd_27_148 : decode gm_c27 148 = .ok (.if_icmp .eq (14), 3) := by decide +kernel
theorem gd_27_151 : decode gm_c27 151 = .ok (.aload_n 0, 1) := by decide +kernel
theorem gd_27_152 : decode gm_c27 152 = .ok (.getfield 29, 3) := by decide +kernel
theorem gd_27_155 : decode gm_c27 155 = .ok (.iload 7, 2) := by decide +kernel
theorem gd_27_157 : decode gm_c27 157 = .ok (.iaload, 1) := by decide +kernel
theorem gd_27_158 : decode gm_c27 158 = .ok (.iconst 5, 1) := by decide +kernel
theorem gd_27_159 : decode gm_c27 159 = .ok (.if_icmp .ne (22), 3) := by decide +kernel
theorem gd_27_162 : decode gm_c27 162 = .ok (.aload_n 0, 1) := by decide +kernel
theorem gd_27_163 : decode gm_c27 163 = .ok (.getfield 44, 3) := by decide +kernel
theorem gd_27_166 : decode gm_c27 166 = .ok (.aload_n 0, 1) := by decide +kernel
theorem gd_27_167 : decode gm_c27 167 = .ok (.getfield 32, 3) := by decide +kernel
theorem gd_27_170 : decode gm_c27 170 = .ok (.iload 7, 2) := by decide +kernel
theorem gd_27_172 : decode gm_c27 172 = .ok (.iaload, 1) := by decide +kernel
theorem gd_27_173 : decode gm_c27 173 = .ok (.baload, 1) := by decide +kernel
theorem gd_27_174 : decode gm_c27 174 = .ok (.ifCond .eq (7), 3) := by decide +kernel
theorem gd_27_177 : decode gm_c27 177 = .ok (.iconst 1, 1) := by decide +kernel
theorem gd_27_178 : decode gm_c27 178 = .ok (.goto (4), 3) := by decide +kernel
theorem gd_27_181 : decode gm_c27 181 = .ok (.iconst 0, 1) := by decide +kernel
theorem gd_27_182 : decode gm_c27 182 = .ok (.istore 5, 2) := by decide +kernel
theorem gd_27_184 : decode gm_c27 184 = .ok (.iinc 7 (1), 3) := by decide +kernel
theorem gd_27_187 : decode gm_c27 187 = .ok (.goto (-74), 3) := by decide +kernel
theorem gd_27_190 : decode gm_c27 190 = .ok (.iinc 6 (1), 3) := by decide +kernel
theorem gd_27_193 : decode gm_c27 193 = .ok (.goto (-169), 3) := by decide +kernel
theorem gd_27_196 : decode gm_c27 196 = .ok (.iload_n 3, 1) := by decide +kernel
theorem gd_27_197 : decode gm_c27 197 = .ok (.ifCond .eq (7), 3) := by decide +kernel
theorem gd_27_200 : decode gm_c27 200 = .ok (.iconst 1, 1) := by decide +kernel
theorem gd_27_201 : decode gm_c27 201 = .ok (.goto (22), 3) := by decide +kernel
theorem gd_27_204 : decode gm_c27 204 = .ok (.iload 4, 2) := by decide +kernel
theorem gd_27_206 : decode gm_c27 206 = .ok (.ifCond .eq (7), 3) := by decide +kernel
theorem gd_27_209 : decode gm_c27 209 = .ok (.iconst 2, 1) := by decide +kernel
theorem gd_27_210 : decode gm_c27 210 = .ok (.goto (13), 3) := by decide +kernel
theorem gd_27_213 : decode gm_c27 213 = .ok (.iload 5, 2) := by decide +kernel
theorem gd_27_215 : decode gm_c27 215 = .ok (.ifCond .eq (7), 3) := by decide +kernel
theorem gd_27_218 : decode gm_c27 218 = .ok (.iconst 3, 1) := by decide +kernel
theorem gd_27_219 : decode gm_c27 219 = .ok (.goto (4), 3) := by decide +kernel
theorem gd_27_222 : decode gm_c27 222 = .ok (.iconst 0, 1) := by decide +kernel
theorem gd_27_223 : decode gm_c27 223 = .ok (.ireturn, 1) := by decide +kernel
theorem gd_28_0 : decode gm_c28 0 = .ok (.aload_n 0, 1) := by decide +kernel
theorem gd_28_1 : decode gm_c28 1 = .ok (.iload_n 1, 1) := by decide +kernel
theorem gd_28_2 : decode gm_c28 2 = .ok (.invokestatic 155, 3) := by decide +kernel
theorem gd_28_5 : decode gm_c28 5 = .ok (.ifCond .eq (7), 3) := by decide +kernel
theorem gd_28_8 : decode gm_c28 8 = .ok (.iconst 0, 1) := by decide +kernel
theorem gd_28_9 : decode gm_c28 9 = .ok (.goto (4), 3) := by decide +kernel
theorem gd_28_12 : decode gm_c28 12 = .ok (.iconst 1, 1) := by decide +kernel
theorem gd_28_13 : decode gm_c28 13 = .ok (.putfield 90, 3) := by decide +kernel
theorem gd_28_16 : decode gm_c28 16 = .ok (.aload_n 0, 1) := by decide +kernel
theorem gd_28_17 : decode gm_c28 17 = .ok (.getfield 90, 3) := by decide +kernel
theorem gd_28_20 : decode gm_c28 20 = .ok (.ifCond .le (7), 3) := by decide +kernel
theorem gd_28_23 : decode gm_c28 23 = .ok (.iconst 0, 1) := by decide +kernel
theorem gd_28_24 : decode gm_c28 24 = .ok (.goto (8), 3) := by decide +kernel
theorem gd_28_27 : decode gm_c28 27 = .ok (.aload_n 0, 1) := by decide +kernel
theorem gd_28_28 : decode gm_c28 28 = .ok (.iload_n 1, 1) := by decide +kernel
theorem gd_28_29 : decode gm_c28 29 = .ok (.invokevirtual 173, 3) := by decide +kernel
theorem gd_28_32 : decode gm_c28 32 = .ok (.ireturn, 1) := by decide +kernel
theorem gd_29_0 : decode gm_c29 0 = .ok (.iload_n 2, 1) := by decide +kernel
theorem gd_29_1 : decode gm_c29 1 = .ok (.istore_n 3, 1) := by decide +kernel
theorem gd_29_2 : decode gm_c29 2 = .ok (.aload_n 0, 1) := by decide +kernel
theorem gd_29_3 : decode gm_c29 3 = .ok (.getfield 68, 3) := by decide +kernel
theorem gd_29_6 : decode gm_c29 6 = .ok (.bipush (13), 2) := by decide +kernel
theorem gd_29_8 : decode gm_c29 8 = .ok (.iload_n 1, 1) := by decide +kernel
theorem gd_29_9 : decode gm_c29 9 = .ok (.imul, 1) := by decide +kernel
theorem gd_29_10 : decode gm_c29 10 = .ok (.iload_n 3, 1) := by decide +kernel
theorem gd_29_11 : decode gm_c29 11 = .ok (.iadd, 1) := by decide +kernel
theorem gd_29_12 : decode gm_c29 12 = .ok (.iaload, 1) := by decide +kernel
theorem gd_29_13 : decode gm_c29 13 = .ok (.istore 4, 2) := by decide +kernel
theorem gd_29_15 : decode gm_c29 15 = .ok (.iload 4, 2) := by decide +kernel
theorem gd_29_17 : decode gm_c29 17 = .ok (.iload_n 3, 1) := by decide +kernel
theorem gd_29_18 : decode gm_c29 18 = .ok (.if_icmp .le (22), 3) := by decide +kernel
theorem gd_29_21 : decode gm_c29 21 = .ok (.iload 4, 2) := by decide +kernel
theorem gd_29_23 : decode gm_c29 23 = .ok (.istore_n 3, 1) := by decide +kernel
theorem gd_29_24 : decode gm_c29 24 = .ok (.aload_n 0, 1) := by decide +kernel
theorem gd_29_25 : decode gm_c29 25 = .ok (.getfield 68, 3) := by decide +kernel
theorem gd_29_28 : decode gm_c29 28 = .ok (.bipush (13), 2) := by decide +kernel
theorem gd_29_30 : decode gm_c29 30 = .ok (.iload_n 1, 1) := by decide +kernel
theorem gd_29_31 : decode gm_c29 31 = .ok (.imul, 1) := by decide +kernel
theorem gd_29_32 : decode gm_c29 32 = .ok (.iload_n 3, 1) := by decide +kernel
theorem gd_29_33 : decode gm_c29 33 = .ok (.iadd, 1) := by decide +kernel
theorem gd_29_34 : decode gm_c29 34 = .ok (.iaload, 1) := by decide +kernel
theorem gd_29_35 : decode gm_c29 35 = .ok (.istore 4, 2) := by decide +kernel
theorem gd_29_37 : decode gm_c29 37 = .ok (.goto (-22), 3) := by decide +kernel
theorem gd_29_40 : decode gm_c29 40 = .ok (.iload 4, 2) := by decide +kernel
theorem gd_29_42 : decode gm_c29 42 = .ok (.bipush (-2), 2) := by decide +kernel
theorem gd_29_44 : decode gm_c29 44 = .ok (.if_icmp .ne (8), 3) := by decide +kernel
theorem gd_29_47 : decode gm_c29 47 = .ok (.bipush (-2), 2) := by decide +kernel
theorem gd_29_49 : decode gm_c29 49 = .ok (.goto (4), 3) := by decide +kernel
theorem gd_29_52 : decode gm_c29 52 = .ok (.iload_n 3, 1) := by decide +kernel
theorem gd_29_53 : decode gm_c29 53 = .ok (.ireturn, 1) := by decide +kernel
theorem gd_30_0 : decode gm_c30 0 = .ok (.iload_n 2, 1) := by decide +kernel
theorem gd_30_1 : decode gm_c30 1 = .ok (.istore_n 3, 1) := by decide +kernel
theorem gd_30_2 : decode gm_c30 2 = .ok (.aload_n 0, 1) := by decide +kernel
theorem gd_30_3 : decode gm_c30 3 = .ok (.getfield 32, 3) := by decide +kernel
theorem gd_30_6 : decode gm_c30 6 = .ok (.iload_n 1, 1) := by decide +kernel
theorem gd_30_7 : decode gm_c30 7 = .ok (.iaload, 1) := by decide +kernel
theorem gd_30_8 : decode gm_c30 8 = .ok (.istore 4, 2) := by decide +kernel
theorem gd_30_10 : decode gm_c30 10 = .ok (.iload 4, 2) := by decide +kernel
theorem gd_30_12 : decode gm_c30 12 = .ok (.ifCond .lt (34), 3) := by decide +kernel
theorem gd_30_15 : decode gm_c30 15 = .ok (.aload_n 0, 1) := by decide +kernel
theorem gd_30_16 : decode gm_c30 16 = .ok (.getfield 68, 3) := by decide +kernel
theorem gd_30_19 : decode gm_c30 19 = .ok (.bipush (13), 2) := by decide +kernel
theorem gd_30_21 : decode gm_c30 21 = .ok (.iload 4, 2) := by decide +kernel
theorem gd_30_23 : decode gm_c30 23 = .ok (.imul, 1) := by decide +kernel
theorem gd_30_24 : decode gm_c30 24 = .ok (.iload_n 3, 1) := by decide +kernel
theorem gd_30_25 : decode gm_c30 25 = .ok (.iadd, 1) := by decide +kernel
theorem gd_30_26 : decode gm_c30 26 = .ok (.iaload, 1) := by decide +kernel
theorem gd_30_27 : decode gm_c30 27 = .ok (.istore_n 3, 1) := by decide +kernel
theorem gd_30_28 : decode gm_c30 28 = .ok (.iload_n 3, 1) := by decide +kernel
theorem gd_30_29 : decode gm_c30 29 = .ok (.ifCond .ge (5), 3) := by decide +kernel
theorem gd_30_32 : decode gm_c30 32 = .ok (.iload_n 3, 1) := by decide +kernel
theorem gd_30_33 : decode gm_c30 33 = .ok (.ireturn, 1) := by decide +kernel
theorem gd_30_34 : decode gm_c30 34 = .ok (.aload_n 0, 1) := by decide +kernel
theorem gd_30_35 : decode gm_c30 35 = .ok (.getfield 38, 3) := by decide +kernel
theorem gd_30_38 : decode gm_c30 38 = .ok (.iload 4, 2) := by decide +kernel
theorem gd_30_40 : decode gm_c30 40 = .ok (.iaload, 1) := by decide +kernel
theorem gd_30_41 : decode gm_c30 41 = .ok (.istore 4, 2) := by decide +kernel
theorem gd_30_43 : decode gm_c30 43 = .ok (.goto (-33), 3) := by decide +kernel
theorem gd_30_46 : decode gm_c30 46 = .ok (.iload_n 3, 1) := by decide +kernel
theorem gd_30_47 : decode gm_c30 47 = .ok (.ireturn, 1) := by decide +kernel
theorem gd_31_0 : decode gm_c31 0 = .ok (.aload_n 0, 1) := by decide +kernel
theorem gd_31_1 : decode gm_c31 1 = .ok (.getfield 32, 3) := by decide +kernel
theorem gd_31_4 : decode gm_c31 4 = .ok (.iload_n 1, 1) := by decide +kernel
theorem gd_31_5 : decode gm_c31 5 = .ok (.iaload, 1) := by decide +kernel
theorem gd_31_6 : decode gm_c31 6 = .ok (.istore_n 3, 1) := by decide +kernel
theorem gd_31_7 : decode gm_c31 7 = .ok (.iload_n 3, 1) := by decide +kernel
theorem gd_31_8 : decode gm_c31 8 = .ok (.ifCond .lt (35), 3) := by decide +kernel
theorem gd_31_11 : decode gm_c31 11 = .ok (.aload_n 0, 1) := by decide +kernel
theorem gd_31_12 : decode gm_c31 12 = .ok (.getfield 68, 3) := by decide +kernel
theorem gd_31_15 : decode gm_c31 15 = .ok (.bipush (13), 2) := by decide +kernel
theorem gd_31_17 : decode gm_c31 17 = .ok (.iload_n 3, 1) := by decide +kernel
theorem gd_31_18 : decode gm_c31 18 = .ok (.imul, 1) := by decide +kernel
theorem gd_31_19 : decode gm_c31 19 = .ok (.iload_n 2, 1) := by decide +kernel
theorem gd_31_20 : decode gm_c31 20 = .ok (.iadd, 1) := by decide +kernel
theorem gd_31_21 : decode gm_c31 21 = .ok (.iaload, 1) := by decide +kernel
theorem gd_31_22 : decode gm_c31 22 = .ok (.istore 4, 2) := by decide +kernel
theorem gd_31_24 : decode gm_c31 24 = .ok (.iload 4, 2) := by decide +kernel
theorem gd_31_26 : decode gm_c31 26 = .ok (.iconst (-1), 1) := by decide +kernel
theorem gd_31_27 : decode gm_c31 27 = .ok (.if_icmp .eq (6), 3) := by decide +kernel
theorem gd_31_30 : decode gm_c31 30 = .ok (.iload 4, 2) := by decide +kernel
theorem gd_31_32 : decode gm_c31 32 = .ok (.ireturn, 1) := by decide +kernel
theorem gd_31_33 : decode gm_c31 33 = .ok (.aload_n 0, 1) := by decide +kernel
theorem gd_31_34 : decode gm_c31 34 = .ok (.getfield 38, 3) := by decide +kernel
theorem gd_31_37 : decode gm_c31 37 = .ok (.iload_n 3, 1) := by decide +kernel
theorem gd_31_38 : decode gm_c31 38 = .ok (.iaload, 1) := by decide +kernel
theorem gd_31_39 : decode gm_c31 39 = .ok (.istore_n 3, 1) := by decide +kernel
theorem gd_31_40 : decode gm_c31 40 = .ok (.goto (-33), 3) := by decide +kernel
theorem gd_31_43 : decode gm_c31 43 = .ok (.iconst (-1), 1) := by decide +kernel
theorem gd_31_44 : decode gm_c31 44 = .ok (.ireturn, 1) := by decide +kernel
theorem gd_32_0 : decode gm_c32 0 = .ok (.aload_n 0, 1) := by decide +kernel
theorem gd_32_1 : decode gm_c32 1 = .ok (.getfield 29, 3) := by decide +kernel
theorem gd_32_4 : decode gm_c32 4 = .ok (.iload_n 1, 1) := by decide +kernel
theorem gd_32_5 : decode gm_c32 5 = .ok (.iaload, 1) := by decide +kernel
theorem gd_32_6 : decode gm_c32 6 = .ok (.istore_n 3, 1) := by decide +kernel
theorem gd_32_7 : decode gm_c32 7 = .ok (.iload_n 3, 1) := by decide +kernel
theorem gd_32_8 : decode gm_c32 8 = .ok (.ifCond .ne (49), 3) := by decide +kernel
theorem gd_32_11 : decode gm_c32 11 = .ok (.iload_n 2, 1) := by decide +kernel
theorem gd_32_12 : decode gm_c32 12 = .ok (.aload_n 0, 1) := by decide +kernel
theorem gd_32_13 : decode gm_c32 13 = .ok (.getfield 100, 3) := by decide +kernel
theorem gd_32_16 : decode gm_c32 16 = .ok (.if_icmp .ge (39), 3) := by decide +kernel
theorem gd_32_19 : decode gm_c32 19 = .ok (.aload_n 0, 1) := by decide +kernel
theorem gd_32_20 : decode gm_c32 20 = .ok (.getfield 13, 3) := by decide +kernel
theorem gd_32_23 : decode gm_c32 23 = .ok (.iload_n 2, 1) := by decide +kernel
theorem gd_32_24 : decode gm_c32 24 = .ok (.iaload, 1) := by decide +kernel
theorem gd_32_25 : decode gm_c32 25 = .ok (.aload_n 0, 1) := by decide +kernel
theorem gd_32_26 : decode gm_c32 26 = .ok (.getfield 32, 3) := by decide +kernel
theorem gd_32_29 : decode gm_c32 29 = .ok (.iload_n 1, 1) := by decide +kernel
theorem gd_32_30 : decode gm_c32 30 = .ok (.iaload, 1) := by decide +kernel
theorem gd_32_31 : decode gm_c32 31 = .ok (.if_icmp .lt (24), 3) := by decide +kernel
theorem gd_32_34 : decode gm_c32 34 = .ok (.aload_n 0, 1) := by decide +kernel
theorem gd_32_35 : decode gm_c32 35 = .ok (.getfield 13, 3) := by decide +kernel
theorem gd_32_38 : decode gm_c32 38 = .ok (.iload_n 2, 1) := by decide +kernel
theorem gd_32_39 : decode gm_c32 39 = .ok (.iaload, 1) := by decide +kernel
theorem gd_32_40 : decode gm_c32 40 = .ok (.aload_n 0, 1) := by decide +kernel
theorem gd_32_41 : decode gm_c32 41 = .ok (.getfield 35, 3) := by decide +kernel
theorem gd_32_44 : decode gm_c32 44 = .ok (.iload_n 1, 1) := by decide +kernel
theorem gd_32_45 : decode gm_c32 45 = .ok (.iaload, 1) := by decide +kernel
theorem gd_32_46 : decode gm_c32 46 = .ok (.if_icmp .gt (9), 3) := by decide +kernel
theorem gd_32_49 : decode gm_c32 49 = .ok (.iload_n 2, 1) := by decide +kernel
theorem gd_32_50 : decode gm_c32 50 = .ok (.iconst 1, 1) := by decide +kernel
theorem gd_32_51 : decode gm_c32 51 = .ok (.iadd, 1) := by decide +kernel
theorem gd_32_52 : decode gm_c32 52 = .ok (.goto (4), 3) := by decide +kernel
theorem gd_32_55 : decode gm_c32 55 = .ok (.iconst (-1), 1) := by decide +kernel
theorem gd_32_56 : decode gm_c32 56 = .ok (.ireturn, 1) := by decide +kernel
theorem gd_32_57 : decode gm_c32 57 = .ok (.iload_n 3, 1) := by decide +kernel
theorem gd_32_58 : decode gm_c32 58 = .ok (.iconst 2, 1) := by decide +kernel
theorem gd_32_59 : decode gm_c32 59 = .ok (.if_icmp .ne (5), 3) := by decide +kernel
theorem gd_32_62 : decode gm_c32 62 = .ok (.iload_n 2, 1) := by decide +kernel
theorem gd_32_63 : decode gm_c32 63 = .ok (.ireturn, 1) := by decide +kernel
theorem gd_32_64 : decode gm_c32 64 = .ok (.iload_n 3, 1) := by decide +kernel
theorem gd_32_65 : decode gm_c32 65 = .ok (.iconst 1, 1) := by decide +kernel
theorem gd_32_66 : decode gm_c32 66 = .ok (.if_icmp .ne (40), 3) := by decide +kernel
theorem gd_32_69 : decode gm_c32 69 = .ok (.aload_n 0, 1) := by decide +kernel
theorem gd_32_70 : decode gm_c32 70 = .ok (.getfield 16, 3) := by decide +kernel
theorem gd_32_73 : decode gm_c32 73 = .ok (.aload_n 0, 1) := by decide +kernel
theorem gd_32_74 : decode gm_c32 74 = .ok (.getfield 32, 3) := by decide +kernel
theorem gd_32_77 : decode gm_c32 77 = .ok (.iload_n 1, 1) := by decide +kernel
theorem gd_32_78 : decode gm_c32 78 = .ok (.iaload, 1) := by decide +kernel
theorem gd_32_79 : decode gm_c32 79 = .ok (.baload, 1) := by decide +kernel
theorem gd_32_80 : decode gm_c32 80 = .ok (.ifCond .eq (23), 3) := by decide +kernel
theorem gd_32_83 : decode gm_c32 83 = .ok (.aload_n 0, 1) := by decide +kernel
theorem gd_32_84 : decode gm_c32 84 = .ok (.getfield 68, 3) := by decide +kernel
theorem gd_32_87 : decode gm_c32 87 = .ok (.sipush (520), 3) := by decide +kernel
theorem gd_32_90 : decode gm_c32 90 = .ok (.aload_n 0, 1) := by decide +kernel
theorem gd_32_91 : decode gm_c32 91 = .ok (.getfield 32, 3) := by decide +kernel
theorem gd_32_94 : decode gm_c32 94 = .ok (.iload_n 1, 1) := by decide +kernel
theorem gd_32_95 : decode gm_c32 95 = .ok (.iaload, 1) := by decide +kernel
theorem gd_32_96 : decode gm_c32 96 = .ok (.imul, 1) := by decide +kernel
theorem gd_32_97 : decode gm_c32 97 = .ok (.iload_n 2, 1) := by decide +kernel
theorem gd_32_98 : decode gm_c32 98 = .ok (.iadd, 1) := by decide +kernel
theorem gd_32_99 : decode gm_c32 99 = .ok (.iaload, 1) := by decide +kernel
theorem gd_32_100 : decode gm_c32 100 = .ok (.goto (5), 3) := by decide +kernel
theorem gd_32_103 : decode gm_c32 103 = .ok (.bipush (-2), 2) := by decide +kernel
theorem gd_32_105 : decode gm_c32 105 = .ok (.ireturn, 1) := by decide +kernel
theorem gd_32_106 : decode gm_c32 106 = .ok (.iload_n 3, 1) := by decide +kernel
theorem gd_32_107 : decode gm_c32 107 = .ok (.bipush (9), 2) := by decide +kernel
theorem gd_32_109 : decode gm_c32 109 = .ok (.if_icmp .ne (10), 3) := by decide +kernel
theorem gd_32_112 : decode gm_c32 112 = .ok (.aload_n 0, 1) := by decide +kernel
theorem gd_32_113 : decode gm_c32 113 = .ok (.iload_n 1, 1) := by decide +kernel
theorem gd_32_114 : decode gm_c32 114 = .ok (.iload_n 2, 1) := by decide +kernel
theorem gd_32_115 : decode gm_c32 115 = .ok (.invokevirtual 176, 3) := by decide +kernel
theorem gd_32_118 : decode gm_c32 118 = .ok (.ireturn, 1) := by decide +kernel
theorem gd_32_119 : decode gm_c32 119 = .ok (.iload_n 3, 1) := by decide +kernel
theorem gd_32_120 : decode gm_c32 120 = .ok (.bipush (10), 2) := by decide +kernel
theorem gd_32_122 : decode gm_c32 122 = .ok (.if_icmp .ne (10), 3) := by decide +kernel
theorem gd_32_125 : decode gm_c32 125 = .ok (.aload_n 0, 1) := by decide +kernel
theorem gd_32_126 : decode gm_c32 126 = .ok (.iload_n 1, 1) := by decide +kernel
theorem gd_32_127 : decode gm_c32 127 = .ok (.iload_n 2, 1) := by decide +kernel
theorem gd_32_128 : decode gm_c32 128 = .ok (.invokevirtual 179, 3) := by decide +kernel
theorem gd_32_131 : decode gm_c32 131 = .ok (.ireturn, 1) := by decide +kernel
theorem gd_32_132 : decode gm_c32 132 = .ok (.iload_n 3, 1) := by decide +kernel
theorem gd_32_133 : decode gm_c32 133 = .ok (.iconst 4, 1) := by decide +kernel
theorem gd_32_134 : decode gm_c32 134 = .ok (.if_icmp .ne (15), 3) := by decide +kernel
theorem gd_32_137 : decode gm_c32 137 = .ok (.aload_n 0, 1) := by decide +kernel
theorem gd_32_138 : decode gm_c32 138 = .ok (.aload_n 0, 1) := by decide +kernel
theorem gd_32_139 : decode gm_c32 139 = .ok (.getfield 32, 3) := by decide +kernel
theorem gd_32_142 : decode gm_c32 142 = .ok (.iload_n 1, 1) := by decide +kernel
theorem gd_32_143 : decode gm_c32 143 = .ok (.iaload, 1) := by decide +kernel
theorem gd_32_144 : decode gm_c32 144 = .ok (.iload_n 2, 1) := by decide +kernel
theorem gd_32_145 : decode gm_c32 145 = .ok (.invokevirtual 182, 3) := by decide +kernel
theorem gd_32_148 : decode gm_c32 148 = .ok (.ireturn, 1) := by decide +kernel
theorem gd_32_149 : decode gm_c32 149 = .ok (.aload_n 0, 1) := by decide +kernel
theorem gd_32_150 : decode gm_c32 150 = .ok (.getfield 68, 3) := by decide +kernel
theorem gd_32_153 : decode gm_c32 153 = .ok (.bipush (13), 2) := by decide +kernel
theorem gd_32_155 : decode gm_c32 155 = .ok (.aload_n 0, 1) := by decide +kernel
theorem gd_32_156 : decode gm_c32 156 = .ok (.getfield 32, 3) := by decide +kernel
theorem gd_32_159 : decode gm_c32 159 = .ok (.iload_n 1, 1) := by decide +kernel
theorem gd_32_160 : decode gm_c32 160 = .ok (.iaload, 1) := by decide +kernel
theorem gd_32_161 : decode gm_c32 161 = .ok (.imul, 1) := by decide +kernel
theorem gd_32_162 : decode gm_c32 162 = .ok (.iload_n 2, 1) := by decide +kernel
theorem gd_32_163 : decode gm_c32 163 = .ok (.iadd, 1) := by decide +kernel
theorem gd_32_164 : decode gm_c32 164 = .ok (.iaload, 1) := by decide +kernel
theorem gd_32_165 : decode gm_c32 165 = .ok (.istore 4, 2) := by decide +kernel
theorem gd_32_167 : decode gm_c32 167 = .ok (.iload 4, 2) := by decide +kernel
theorem gd_32_169 : decode gm_c32 169 = .ok (.bipush (-2), 2) := by decide +kernel
theorem gd_32_171 : decode gm_c32 171 = .ok (.if_icmp .eq (8), 3) := by decide +kernel
theorem gd_32_174 : decode gm_c32 174 = .ok (.iload_n 3, 1) := by decide +kernel
theorem gd_32_175 : decode gm_c32 175 = .ok (.iconst 3, 1) := by decide +kernel
theorem gd_32_176 : decode gm_c32 176 = .ok (.if_icmp .ne (6), 3) := by decide +kernel
theorem gd_32_179 : decode gm_c32 179 = .ok (.iload 4, 2) := by decide +kernel
theorem gd_32_181 : decode gm_c32 181 = .ok (.ireturn, 1) := by decide +kernel
theorem gd_32_182 : decode gm_c32 182 = .ok (.iload_n 3, 1) := by decide +kernel
theorem gd_32_183 : decode gm_c32 183 = .ok (.iconst 5, 1) := by decide +kernel
theorem gd_32_184 : decode gm_c32 184 = .ok (.if_icmp .ne (25), 3) := by decide +kernel
theorem gd_32_187 : decode gm_c32 187 = .ok (.iload 4, 2) := by decide +kernel
theorem gd_32_189 : decode gm_c32 189 = .ok (.ifCond .ge (7), 3) := by decide +kernel
theorem gd_32_192 : decode gm_c32 192 = .ok (.iconst (-1), 1) := by decide +kernel
theorem gd_32_193 : decode gm_c32 193 = .ok (.goto (15), 3) := by decide +kernel
theorem gd_32_196 : decode gm_c32 196 = .ok (.aload_n 0, 1) := by decide +kernel
theorem gd_32_197 : decode gm_c32 197 = .ok (.aload_n 0, 1) := by decide +kernel
theorem gd_32_198 : decode gm_c32 198 = .ok (.getfield 32, 3) := by decide +kernel
theorem gd_32_201 : decode gm_c32 201 = .ok (.iload_n 1, 1) := by decide +kernel
theorem gd_32_202 : decode gm_c32 202 = .ok (.iaload, 1) := by decide +kernel
theorem gd_32_203 : decode gm_c32 203 = .ok (.iload 4, 2) := by decide +kernel
theorem gd_32_205 : decode gm_c32 205 = .ok (.invokevirtual 182, 3) := by decide +kernel
theorem gd_32_208 : decode gm_c32 208 = .ok (.ireturn, 1) := by decide +kernel
theorem gd_32_209 : decode gm_c32 209 = .ok (.iload_n 3, 1) := by decide +kernel
theorem gd_32_210 : decode gm_c32 210 = .ok (.bipush (6), 2) := by decide +kernel
theorem gd_32_212 : decode gm_c32 212 = .ok (.if_icmp .ne (15), 3) := by decide +kernel
theorem gd_32_215 : decode gm_c32 215 = .ok (.iload 4, 2) := by decide +kernel
theorem gd_32_217 : decode gm_c32 217 = .ok (.ifCond .ge (7), 3) := by decide +kernel
theorem gd_32_220 : decode gm_c32 220 = .ok (.iload_n 2, 1) := by decide +kernel
theorem gd_32_221 : decode gm_c32 221 = .ok (.goto (5), 3) := by decide +kernel
theorem gd_32_224 : decode gm_c32 224 = .ok (.iload 4, 2) := by decide +kernel
theorem gd_32_226 : decode gm_c32 226 = .ok (.ireturn, 1) := by decide +kernel
theorem gd_32_227 : decode gm_c32 227 = .ok (.iload 4, 2) := by decide +kernel
theorem gd_32_229 : decode gm_c32 229 = .ok (.ifCond .lt (7), 3) := by decide +kernel
theorem gd_32_232 : decode gm_c32 232 = .ok (.iconst 1, 1) := by decide +kernel
theorem gd_32_233 : decode gm_c32 233 = .ok (.goto (4), 3) := by decide +kernel
theorem gd_32_236 : decode gm_c32 236 = .ok (.iconst 0, 1) := by decide +kernel
theorem gd_32_237 : decode gm_c32 237 = .ok (.iload_n 3, 1) := by decide +kernel
theorem gd_32_238 : decode gm_c32 238 = .ok (.bipush (7), 2) := by decide +kernel
theorem gd_32_240 : decode gm_c32 240 = .ok (.if_icmp .ne (7), 3) := by decide +kernel
theorem gd_32_243 : decode gm_c32 243 = .ok (.iconst 1, 1) := by decide +kernel
theorem gd_32_244 : decode gm_c32 244 = .ok (.goto (4), 3) := by decide +kernel
theorem gd_32_247 : decode gm_c32 247 = .ok (.iconst 0, 1) := by decide +kernel
theorem gd_32_248 : decode gm_c32 248 = .ok (.if_icmp .ne (7), 3) := by decide +kernel
theorem gd_32_251 : decode gm_c32 251 = .ok (.iload_n 2, 1) := by decide +kernel
theorem gd_32_252 : decode gm_c32 252 = .ok (.goto (4), 3) := by decide +kernel
theorem gd_32_255 : decode gm_c32 255 = .ok (.iconst (-1), 1) := by decide +kernel
theorem gd_32_256 : decode gm_c32 256 = .ok (.ireturn, 1) := by decide +kernel
theorem gd_33_0 : decode gm_c33 0 = .ok (.iconst 0, 1) := by decide +kernel
theorem gd_33_1 : decode gm_c33 1 = .ok (.istore_n 1, 1) := by decide +kernel
theorem gd_33_2 : decode gm_c33 2 = .ok (.iload_n 1, 1) := by decide +kernel
theorem gd_33_3 : decode gm_c33 3 = .ok (.sipush (2600), 3) := by decide +kernel
theorem gd_33_6 : decode gm_c33 6 = .ok (.if_icmp .ge (17), 3) := by decide +kernel
theorem gd_33_9 : decode gm_c33 9 = .ok (.aload_n 0, 1) := by decide +kernel
theorem gd_33_10 : decode gm_c33 10 = .ok (.getfield 68, 3) := by decide +kernel
theorem gd_33_13 : decode gm_c33 13 = .ok (.iload_n 1, 1) := by decide +kernel
theorem gd_33_14 : decode gm_c33 14 = .ok (.bipush (-2), 2) := by decide +kernel
theorem gd_33_16 : decode gm_c33 16 = .ok (.iastore, 1) := by decide +kernel
theorem gd_33_17 : decode gm_c33 17 = .ok (.iinc 1 (1), 3) := by decide +kernel
theorem gd_33_20 : decode gm_c33 20 = .ok (.goto (-18), 3) := by decide +kernel
theorem gd_33_23 : decode gm_c33 23 = .ok (.iconst 1, 1) := by decide +kernel
theorem gd_33_24 : decode gm_c33 24 = .ok (.istore_n 1, 1) := by decide +kernel
theorem gd_33_25 : decode gm_c33 25 = .ok (.iload_n 1, 1) := by decide +kernel
theorem gd_33_26 : decode gm_c33 26 = .ok (.ifCond .eq (104), 3) := by decide +kernel
theorem gd_33_29 : decode gm_c33 29 = .ok (.iconst 0, 1) := by decide +kernel
theorem gd_33_30 : decode gm_c33 30 = .ok (.istore_n 1, 1) := by decide +kernel
theorem gd_33_31 : decode gm_c33 31 = .ok (.aload_n 0, 1) := by decide +kernel
theorem gd_33_32 : decode gm_c33 32 = .ok (.getfield 100, 3) := by decide +kernel
theorem gd_33_35 : decode gm_c33 35 = .ok (.istore_n 2, 1) := by decide +kernel
theorem gd_33_36 : decode gm_c33 36 = .ok (.iload_n 2, 1) := by decide +kernel
theorem gd_33_37 : decode gm_c33 37 = .ok (.ifCond .lt (90), 3) := by decide +kernel
theorem gd_33_40 : decode gm_c33 40 = .ok (.sipush (159), 3) := by decide +kernel
theorem gd_33_43 : decode gm_c33 43 = .ok (.istore_n 3, 1) := by decide +kernel
theorem gd_33_44 : decode gm_c33 44 = .ok (.iload_n 3, 1) := by decide +kernel
theorem gd_33_45 : decode gm_c33 45 = .ok (.ifCond .lt (76), 3) := by decide +kernel
theorem gd_33_48 : decode gm_c33 48 = .ok (.aload_n 0, 1) := by decide +kernel
theorem gd_33_49 : decode gm_c33 49 = .ok (.iload_n 3, 1) := by decide +kernel
theorem gd_33_50 : decode gm_c33 50 = .ok (.invokevirtual 158, 3) := by decide +kernel
theorem gd_33_53 : decode gm_c33 53 = .ok (.ifCond .eq (62), 3) := by decide +kernel
theorem gd_33_56 : decode gm_c33 56 = .ok (.aload_n 0, 1) := by decide +kernel
theorem gd_33_57 : decode gm_c33 57 = .ok (.getfield 68, 3) := by decide +kernel
theorem gd_33_60 : decode gm_c33 60 = .ok (.bipush (13), 2) := by decide +kernel
theorem gd_33_62 : decode gm_c33 62 = .ok (.iload_n 3, 1) := by decide +kernel
theorem gd_33_63 : decode gm_c33 63 = .ok (.imul, 1) := by decide +kernel
theorem gd_33_64 : decode gm_c33 64 = .ok (.iload_n 2, 1) := by decide +kernel
theorem gd_33_65 : decode gm_c33 65 = .ok (.iadd, 1) := by decide +kernel
theorem gd_33_66 : decode gm_c33 66 = .ok (.iaload, 1) := by decide +kernel
theorem gd_33_67 : decode gm_c33 67 = .ok (.bipush (-2), 2) := by decide +kernel
theorem gd_33_69 : decode gm_c33 69 = .ok (.if_icmp .ne (46), 3) := by decide +kernel
theorem gd_33_72 : decode gm_c33 72 = .ok (.aload_n 0, 1) := by decide +kernel
theorem gd_33_73 : decode gm_c33 73 = .ok (.getfield 68, 3) := by decide +kernel
theorem gd_33_76 : decode gm_c33 76 = .ok (.bipush (13), 2) := by decide +kernel
theorem gd_33_78 : decode gm_c33 78 = .ok (.iload_n 3, 1) := by decide +kernel
theorem gd_33_79 : decode gm_c33 79 = .ok (.imul, 1) := by decide +kernel
theorem gd_33_80 : decode gm_c33 80 = .ok (.iload_n 2, 1) := by decide +kernel
theorem gd_33_81 : decode gm_c33 81 = .ok (.iadd, 1) := by decide +kernel
theorem gd_33_82 : decode gm_c33 82 = .ok (.aload_n 0, 1) := by decide +kernel
theorem gd_33_83 : decode gm_c33 83 = .ok (.iload_n 3, 1) := by decide +kernel
theorem gd_33_84 : decode gm_c33 84 = .ok (.iload_n 2, 1) := by decide +kernel
theorem gd_33_85 : decode gm_c33 85 = .ok (.invokevirtual 185, 3) := by decide +kernel
theorem gd_33_88 : decode gm_c33 88 = .ok (.iastore, 1) := by decide +kernel
theorem gd_33_89 : decode gm_c33 89 = .ok (.iload_n 1, 1) := by decide +kernel
theorem gd_33_90 : decode gm_c33 90 = .ok (.ifCond .ne (19), 3) := by decide +kernel
theorem gd_33_93 : decode gm_c33 93 = .ok (.aload_n 0, 1) := by decide +kernel
theorem gd_33_94 : decode gm_c33 94 = .ok (.getfield 68, 3) := by decide +kernel
theorem gd_33_97 : decode gm_c33 97 = .ok (.bipush (13), 2) := by decide +kernel
theorem gd_33_99 : decode gm_c33 99 = .ok (.iload_n 3, 1) := by decide +kernel
theorem gd_33_100 : decode gm_c33 100 = .ok (.imul, 1) := by decide +kernel
theorem gd_33_101 : decode gm_c33 101 = .ok (.iload_n 2, 1) := by decide +kernel
theorem gd_33_102 : decode gm_c33 102 = .ok (.iadd, 1) := by decide +kernel
theorem gd_33_103 : decode gm_c33 103 = .ok (.iaload, 1) := by decide +kernel
theorem gd_33_104 : decode gm_c33 104 = .ok (.bipush (-2), 2) := by decide +kernel
theorem gd_33_106 : decode gm_c33 106 = .ok (.if_icmp .eq (7), 3) := by decide +kernel
theorem gd_33_109 : decode gm_c33 109 = .ok (.iconst 1, 1) := by decide +kernel
theorem gd_33_110 : decode gm_c33 110 = .ok (.goto (4), 3) := by decide +kernel
theorem gd_33_113 : decode gm_c33 113 = .ok (.iconst 0, 1) := by decide +kernel
theorem gd_33_114 : decode gm_c33 114 = .ok (.istore_n 1, 1) := by decide +kernel
theorem gd_33_115 : decode gm_c33 115 = .ok (.iinc 3 (-1), 3) := by decide +kernel
theorem gd_33_118 : decode gm_c33 118 = .ok (.goto (-74), 3) := by decide +kernel
theorem gd_33_121 : decode gm_c33 121 = .ok (.iinc 2 (-1), 3) := by decide +kernel
theorem gd_33_124 : decode gm_c33 124 = .ok (.goto (-88), 3) := by decide +kernel
theorem gd_33_127 : decode gm_c33 127 = .ok (.goto (-102), 3) := by decide +kernel
theorem gd_33_130 : decode gm_c33 130 = .ok (.return_, 1) := by decide +kernel
theorem gd_34_0 : decode gm_c34 0 = .ok (.aload_n 0, 1) := by decide +kernel
theorem gd_34_1 : decode gm_c34 1 = .ok (.getfield 71, 3) := by decide +kernel
theorem gd_34_4 : decode gm_c34 4 = .ok (.bipush (13), 2) := by decide +kernel
theorem gd_34_6 : decode gm_c34 6 = .ok (.iload_n 1, 1) := by decide +kernel
theorem gd_34_7 : decode gm_c34 7 = .ok (.imul, 1) := by decide +kernel
theorem gd_34_8 : decode gm_c34 8 = .ok (.iload_n 2, 1) := by decide +kernel
theorem gd_34_9 : decode gm_c34 9 = .ok (.iadd, 1) := by decide +kernel
theorem gd_34_10 : decode gm_c34 10 = .ok (.baload, 1) := by decide +kernel
theorem gd_34_11 : decode gm_c34 11 = .ok (.ifCond .ne (40), 3) := by decide +kernel
theorem gd_34_14 : decode gm_c34 14 = .ok (.aload_n 0, 1) := by decide +kernel
theorem gd_34_15 : decode gm_c34 15 = .ok (.getfield 71, 3) := by decide +kernel
theorem gd_34_18 : decode gm_c34 18 = .ok (.bipush (13), 2) := by decide +kernel
theorem gd_34_20 : decode gm_c34 20 = .ok (.iload_n 1, 1) := by decide +kernel
theorem gd_34_21 : decode gm_c34 21 = .ok (.imul, 1) := by decide +kernel
theorem gd_34_22 : decode gm_c34 22 = .ok (.iload_n 2, 1) := by decide +kernel
theorem gd_34_23 : decode gm_c34 23 = .ok (.iadd, 1) := by decide +kernel
theorem gd_34_24 : decode gm_c34 24 = .ok (.iconst 1, 1) := by decide +kernel
theorem gd_34_25 : decode gm_c34 25 = .ok (.bastore, 1) := by decide +kernel
theorem gd_34_26 : decode gm_c34 26 = .ok (.aload_n 0, 1) := by decide +kernel
theorem gd_34_27 : decode gm_c34 27 = .ok (.getfield 74, 3) := by decide +kernel
theorem gd_34_30 : decode gm_c34 30 = .ok (.aload_n 0, 1) := by decide +kernel
theorem gd_34_31 : decode gm_c34 31 = .ok (.getfield 188, 3) := by decide +kernel
theorem gd_34_34 : decode gm_c34 34 = .ok (.bipush (13), 2) := by decide +kernel
theorem gd_34_36 : decode gm_c34 36 = .ok (.iload_n 1, 1) := by decide +kernel
theorem gd_34_37 : decode gm_c34 37 = .ok (.imul, 1) := by decide +kernel
theorem gd_34_38 : decode gm_c34 38 = .ok (.iload_n 2, 1) := by decide +kernel
theorem gd_34_39 : decode gm_c34 39 = .ok (.iadd, 1) := by decide +kernel
theorem gd_34_40 : decode gm_c34 40 = .ok (.iastore, 1) := by decide +kernel
theorem gd_34_41 : decode gm_c34 41 = .ok (.aload_n 0, 1) := by decide +kernel
theorem gd_34_42 : decode gm_c34 42 = .ok (.dup, 1) := by decide +kernel
theorem gd_34_43 : decode gm_c34 43 = .ok (.getfield 188, 3) := by decide +kernel
theorem gd_34_46 : decode gm_c34 46 = .ok (.iconst 1, 1) := by decide +kernel
theorem gd_34_47 : decode gm_c34 47 = .ok (.iadd, 1) := by decide +kernel
theorem gd_34_48 : decode gm_c34 48 = .ok (.putfield 188, 3) := by decide +kernel
theorem gd_34_51 : decode gm_c34 51 = .ok (.return_, 1) := by decide +kernel
theorem gd_35_0 : decode gm_c35 0 = .ok (.aload_n 0, 1) := by decide +kernel
theorem gd_35_1 : decode gm_c35 1 = .ok (.getfield 77, 3) := by decide +kernel
theorem gd_35_4 : decode gm_c35 4 = .ok (.bipush (13), 2) := by decide +kernel
theorem gd_35_6 : decode gm_c35 6 = .ok (.iload_n 1, 1) := by decide +kernel
theorem gd_35_7 : decode gm_c35 7 = .ok (.imul, 1) := by decide +kernel
theorem gd_35_8 : decode gm_c35 8 = .ok (.iload_n 2, 1) := by decide +kernel
theorem gd_35_9 : decode gm_c35 9 = .ok (.iadd, 1) := by decide +kernel
theorem gd_35_10 : decode gm_c35 10 = .ok (.baload, 1) := by decide +kernel
theorem gd_35_11 : decode gm_c35 11 = .ok (.ifCond .ne (25), 3) := by decide +kernel
theorem gd_35_14 : decode gm_c35 14 = .ok (.aload_n 0, 1) := by decide +kernel
theorem gd_35_15 : decode gm_c35 15 = .ok (.getfield 77, 3) := by decide +kernel
theorem gd_35_18 : decode gm_c35 18 = .ok (.bipush (13), 2) := by decide +kernel
theorem gd_35_20 : decode gm_c35 20 = .ok (.iload_n 1, 1) := by decide +kernel
theorem gd_35_21 : decode gm_c35 21 = .ok (.imul, 1) := by decide +kernel
theorem gd_35_22 : decode gm_c35 22 = .ok (.iload_n 2, 1) := by decide +kernel
theorem gd_35_23 : decode gm_c35 23 = .ok (.iadd, 1) := by decide +kernel
theorem gd_35_24 : decode gm_c35 24 = .ok (.iconst 1, 1) := by decide +kernel
theorem gd_35_25 : decode gm_c35 25 = .ok (.bastore, 1) := by decide +kernel
theorem gd_35_26 : decode gm_c35 26 = .ok (.aload_n 0, 1) := by decide +kernel
theorem gd_35_27 : decode gm_c35 27 = .ok (.dup, 1) := by decide +kernel
theorem gd_35_28 : decode gm_c35 28 = .ok (.getfield 191, 3) := by decide +kernel
theorem gd_35_31 : decode gm_c35 31 = .ok (.iconst 1, 1) := by decide +kernel
theorem gd_35_32 : decode gm_c35 32 = .ok (.iadd, 1) := by decide +kernel
theorem gd_35_33 : decode gm_c35 33 = .ok (.putfield 191, 3) := by decide +kernel
theorem gd_35_36 : decode gm_c35 36 = .ok (.aload_n 0, 1) := by decide +kernel
theorem gd_35_37 : decode gm_c35 37 = .ok (.bipush (40), 2) := by decide +kernel
theorem gd_35_39 : decode gm_c35 39 = .ok (.iload_n 1, 1) := by decide +kernel
theorem gd_35_40 : decode gm_c35 40 = .ok (.imul, 1) := by decide +kernel
theorem gd_35_41 : decode gm_c35 41 = .ok (.iload_n 2, 1) := by decide +kernel
theorem gd_35_42 : decode gm_c35 42 = .ok (.invokevirtual 194, 3) := by decide +kernel
theorem gd_35_45 : decode gm_c35 45 = .ok (.return_, 1) := by decide +kernel
theorem gd_36_0 : decode gm_c36 0 = .ok (.aload_n 0, 1) := by decide +kernel
theorem gd_36_1 : decode gm_c36 1 = .ok (.getfield 29, 3) := by decide +kernel
theorem gd_36_4 : decode gm_c36 4 = .ok (.iload_n 1, 1) := by decide +kernel
theorem gd_36_5 : decode gm_c36 5 = .ok (.iaload, 1) := by decide +kernel
theorem gd_36_6 : decode gm_c36 6 = .ok (.istore_n 3, 1) := by decide +kernel
theorem gd_36_7 : decode gm_c36 7 = .ok (.iload_n 3, 1) := by decide +kernel
theorem gd_36_8 : decode gm_c36 8 = .ok (.ifCond .ne (40), 3) := by decide +kernel
theorem gd_36_11 : decode gm_c36 11 = .ok (.aload_n 0, 1) := by decide +kernel
theorem gd_36_12 : decode gm_c36 12 = .ok (.aload_n 0, 1) := by decide +kernel
theorem gd_36_13 : decode gm_c36 13 = .ok (.getfield 68, 3) := by decide +kernel
theorem gd_36_16 : decode gm_c36 16 = .ok (.bipush (13), 2) := by decide +kernel
theorem gd_36_18 : decode gm_c36 18 = .ok (.iload_n 1, 1) := by decide +kernel
theorem gd_36_19 : decode gm_c36 19 = .ok (.imul, 1) := by decide +kernel
theorem gd_36_20 : decode gm_c36 20 = .ok (.iload_n 2, 1) := by decide +kernel
theorem gd_36_21 : decode gm_c36 21 = .ok (.iadd, 1) := by decide +kernel
theorem gd_36_22 : decode gm_c36 22 = .ok (.iaload, 1) := by decide +kernel
theorem gd_36_23 : decode gm_c36 23 = .ok (.ifCond .ge (15), 3) := by decide +kernel
theorem gd_36_26 : decode gm_c36 26 = .ok (.iload_n 2, 1) := by decide +kernel
theorem gd_36_27 : decode gm_c36 27 = .ok (.aload_n 0, 1) := by decide +kernel
theorem gd_36_28 : decode gm_c36 28 = .ok (.getfield 86, 3) := by decide +kernel
theorem gd_36_31 : decode gm_c36 31 = .ok (.if_icmp .le (7), 3) := by decide +kernel
theorem gd_36_34 : decode gm_c36 34 = .ok (.iload_n 2, 1) := by decide +kernel
theorem gd_36_35 : decode gm_c36 35 = .ok (.goto (7), 3) := by decide +kernel
theorem gd_36_38 : decode gm_c36 38 = .ok (.aload_n 0, 1) := by decide +kernel
theorem gd_36_39 : decode gm_c36 39 = .ok (.getfield 86, 3) := by decide +kernel
theorem gd_36_42 : decode gm_c36 42 = .ok (.putfield 86, 3) := by decide +kernel
theorem gd_36_45 : decode gm_c36 45 = .ok (.goto (229), 3) := by decide +kernel
theorem gd_36_48 : decode gm_c36 48 = .ok (.iload_n 3, 1) := by decide +kernel
theorem gd_36_49 : decode gm_c36 49 = .ok (.iconst 1, 1) := by decide +kernel
theorem gd_36_50 : decode gm_c36 50 = .ok (.if_icmp .ne (17), 3) := by decide +kernel
theorem gd_36_53 : decode gm_c36 53 = .ok (.aload_n 0, 1) := by decide +kernel
theorem gd_36_54 : decode gm_c36 54 = .ok (.aload_n 0, 1) := by decide +kernel
theorem gd_36_55 : decode gm_c36 55 = .ok (.getfield 32, 3) := by decide +kernel
theorem gd_36_58 : decode gm_c36 58 = .ok (.iload_n 1, 1) := by decide +kernel
theorem gd_36_59 : decode gm_c36 59 = .ok (.iaload, 1) := by decide +kernel
theorem gd_36_60 : decode gm_c36 60 = .ok (.iload_n 2, 1) := by decide +kernel
theorem gd_36_61 : decode gm_c36 61 = .ok (.invokevirtual 197, 3) := by decide +kernel
theorem gd_36_64 : decode gm_c36 64 = .ok (.goto (210), 3) := by decide +kernel
theorem gd_36_67 : decode gm_c36 67 = .ok (.iload_n 3, 1) := by decide +kernel
theorem gd_36_68 : decode gm_c36 68 = .ok (.bipush (10), 2) := by decide +kernel
theorem gd_36_70 : decode gm_c36 70 = .ok (.if_icmp .ne (68), 3) := by decide +kernel
theorem gd_36_73 : decode gm_c36 73 = .ok (.iconst 1, 1) := by decide +kernel
theorem gd_36_74 : decode gm_c36 74 = .ok (.istore 4, 2) := by decide +kernel
theorem gd_36_76 : decode gm_c36 76 = .ok (.aload_n 0, 1) := by decide +kernel
theorem gd_36_77 : decode gm_c36 77 = .ok (.getfield 32, 3) := by decide +kernel
theorem gd_36_80 : decode gm_c36 80 = .ok (.iload_n 1, 1) := by decide +kernel
theorem gd_36_81 : decode gm_c36 81 = .ok (.iaload, 1) := by decide +kernel
theorem gd_36_82 : decode gm_c36 82 = .ok (.istore 5, 2) := by decide +kernel
theorem gd_36_84 : decode gm_c36 84 = .ok (.iload 5, 2) := by decide +kernel
theorem gd_36_86 : decode gm_c36 86 = .ok (.ifCond .lt (49), 3) := by decide +kernel
theorem gd_36_89 : decode gm_c36 89 = .ok (.iload 4, 2) := by decide +kernel
theorem gd_36_91 : decode gm_c36 91 = .ok (.ifCond .eq (44), 3) := by decide +kernel
theorem gd_36_94 : decode gm_c36 94 = .ok (.aload_n 0, 1) := by decide +kernel
theorem gd_36_95 : decode gm_c36 95 = .ok (.iload 5, 2) := by decide +kernel
theorem gd_36_97 : decode gm_c36 97 = .ok (.iload_n 2, 1) := by decide +kernel
theorem gd_36_98 : decode gm_c36 98 = .ok (.invokevirtual 194, 3) := by decide +kernel
theorem gd_36_101 : decode gm_c36 101 = .ok (.aload_n 0, 1) := by decide +kernel
theorem gd_36_102 : decode gm_c36 102 = .ok (.getfield 68, 3) := by decide +kernel
theorem gd_36_105 : decode gm_c36 105 = .ok (.bipush (13), 2) := by decide +kernel
theorem gd_36_107 : decode gm_c36 107 = .ok (.iload 5, 2) := by decide +kernel
theorem gd_36_109 : decode gm_c36 109 = .ok (.imul, 1) := by decide +kernel
theorem gd_36_110 : decode gm_c36 110 = .ok (.iload_n 2, 1) := by decide +kernel
theorem gd_36_111 : decode gm_c36 111 = .ok (.iadd, 1) := by decide +kernel
theorem gd_36_112 : decode gm_c36 112 = .ok (.iaload, 1) := by decide +kernel
theorem gd_36_113 : decode gm_c36 113 = .ok (.ifCond .ge (7), 3) := by decide +kernel
theorem gd_36_116 : decode gm_c36 116 = .ok (.iconst 1, 1) := by decide +kernel
theorem gd_36_117 : decode gm_c36 117 = .ok (.goto (4), 3) := by decide +kernel
theorem gd_36_120 : decode gm_c36 120 = .ok (.iconst 0, 1) := by decide +kernel
theorem gd_36_121 : decode gm_c36 121 = .ok (.istore 4, 2) := by decide +kernel
theorem gd_36_123 : decode gm_c36 123 = .ok (.aload_n 0, 1) := by decide +kernel
theorem gd_36_124 : decode gm_c36 124 = .ok (.getfield 38, 3) := by decide +kernel
theorem gd_36_127 : decode gm_c36 127 = .ok (.iload 5, 2) := by decide +kernel
theorem gd_36_129 : decode gm_c36 129 = .ok (.iaload, 1) := by decide +kernel
theorem gd_36_130 : decode gm_c36 130 = .ok (.istore 5, 2) := by decide +kernel
theorem gd_36_132 : decode gm_c36 132 = .ok (.goto (-48), 3) := by decide +kernel
theorem gd_36_135 : decode gm_c36 135 = .ok (.goto (139), 3) := by decide +kernel
theorem gd_36_138 : decode gm_c36 138 = .ok (.iload_n 3, 1) := by decide +kernel
theorem gd_36_139 : decode gm_c36 139 = .ok (.bipush (9), 2) := by decide +kernel
theorem gd_36_141 : decode gm_c36 141 = .ok (.if_icmp .ne (62), 3) := by decide +kernel
theorem gd_36_144 : decode gm_c36 144 = .ok (.iload_n 2, 1) := by decide +kernel
theorem gd_36_145 : decode gm_c36 145 = .ok (.istore 4, 2) := by decide +kernel
theorem gd_36_147 : decode gm_c36 147 = .ok (.aload_n 0, 1) := by decide +kernel
theorem gd_36_148 : decode gm_c36 148 = .ok (.getfield 32, 3) := by decide +kernel
theorem gd_36_151 : decode gm_c36 151 = .ok (.iload_n 1, 1) := by decide +kernel
theorem gd_36_152 : decode gm_c36 152 = .ok (.iaload, 1) := by decide +kernel
theorem gd_36_153 : decode gm_c36 153 = .ok (.istore 5, 2) := by decide +kernel
theorem gd_36_155 : decode gm_c36 155 = .ok (.iload 5, 2) := by decide +kernel
theorem gd_36_157 : decode gm_c36 157 = .ok (.ifCond .lt (43), 3) := by decide +kernel
theorem gd_36_160 : decode gm_c36 160 = .ok (.iload 4, 2) := by decide +kernel
theorem gd_36_162 : decode gm_c36 162 = .ok (.ifCond .lt (38), 3) := by decide +kernel
theorem gd_36_165 : decode gm_c36 165 = .ok (.aload_n 0, 1) := by decide +kernel
theorem gd_36_166 : decode gm_c36 166 = .ok (.iload 5, 2) := by decide +kernel
theorem gd_36_168 : decode gm_c36 168 = .ok (.iload 4, 2) := by decide +kernel
theorem gd_36_170 : decode gm_c36 170 = .ok (.invokevirtual 194, 3) := by decide +kernel
theorem gd_36_173 : decode gm_c36 173 = .ok (.aload_n 0, 1) := by decide +kernel
theorem gd_36_174 : decode gm_c36 174 = .ok (.getfield 68, 3) := by decide +kernel
theorem gd_36_177 : decode gm_c36 177 = .ok (.bipush (13), 2) := by decide +kernel
theorem gd_36_179 : decode gm_c36 179 = .ok (.iload 5, 2) := by decide +kernel
theorem gd_36_181 : decode gm_c36 181 = .ok (.imul, 1) := by decide +kernel
theorem gd_36_182 : decode gm_c36 182 = .ok (.iload 4, 2) := by decide +kernel
theorem gd_36_184 : decode gm_c36 184 = .ok (.iadd, 1) := by decide +kernel
theorem gd_36_185 : decode gm_c36 185 = .ok (.iaload, 1) := by decide +kernel
theorem gd_36_186 : decode gm_c36 186 = .ok (.istore 4, 2) := by decide +kernel
theorem gd_36_188 : decode gm_c36 188 = .ok (.aload_n 0, 1) := by decide +kernel
theorem gd_36_189 : decode gm_c36 189 = .ok (.getfield 38, 3) := by decide +kernel
theorem gd_36_192 : decode gm_c36 192 = .ok (.iload 5, 2) := by decide +kernel
theorem gd_36_194 : decode gm_c36 194 = .ok (.iaload, 1) := by decide +kernel
theorem gd_36_195 : decode gm_c36 195 = .ok (.istore 5, 2) := by decide +kernel
theorem gd_36_197 : decode gm_c36 197 = .ok (.goto (-42), 3) := by decide +kernel
theorem gd_36_200 : decode gm_c36 200 = .ok (.goto (74), 3) := by decide +kernel
theorem gd_36_203 : decode gm_c36 203 = .ok (.iload_n 3, 1) := by decide +kernel
theorem gd_36_204 : decode gm_c36 204 = .ok (.iconst 4, 1) := by decide +kernel
theorem gd_36_205 : decode gm_c36 205 = .ok (.if_icmp .eq (8), 3) := by decide +kernel
theorem gd_36_208 : decode gm_c36 208 = .ok (.iload_n 3, 1) := by decide +kernel
theorem gd_36_209 : decode gm_c36 209 = .ok (.iconst 5, 1) := by decide +kernel
theorem gd_36_210 : decode gm_c36 210 = .ok (.if_icmp .ne (48), 3) := by decide +kernel
theorem gd_36_213 : decode gm_c36 213 = .ok (.iload_n 2, 1) := by decide +kernel
theorem gd_36_214 : decode gm_c36 214 = .ok (.istore 4, 2) := by decide +kernel
theorem gd_36_216 : decode gm_c36 216 = .ok (.iload 4, 2) := by decide +kernel
theorem gd_36_218 : decode gm_c36 218 = .ok (.ifCond .lt (37), 3) := by decide +kernel
theorem gd_36_221 : decode gm_c36 221 = .ok (.aload_n 0, 1) := by decide +kernel
theorem gd_36_222 : decode gm_c36 222 = .ok (.aload_n 0, 1) := by decide +kernel
theorem gd_36_223 : decode gm_c36 223 = .ok (.getfield 32, 3) := by decide +kernel
theorem gd_36_226 : decode gm_c36 226 = .ok (.iload_n 1, 1) := by decide +kernel
theorem gd_36_227 : decode gm_c36 227 = .ok (.iaload, 1) := by decide +kernel
theorem gd_36_228 : decode gm_c36 228 = .ok (.iload 4, 2) := by decide +kernel
theorem gd_36_230 : decode gm_c36 230 = .ok (.invokevirtual 194, 3) := by decide +kernel
theorem gd_36_233 : decode gm_c36 233 = .ok (.aload_n 0, 1) := by decide +kernel
theorem gd_36_234 : decode gm_c36 234 = .ok (.getfield 68, 3) := by decide +kernel
theorem gd_36_237 : decode gm_c36 237 = .ok (.bipush (13), 2) := by decide +kernel
theorem gd_36_239 : decode gm_c36 239 = .ok (.aload_n 0, 1) := by decide +kernel
theorem gd_36_240 : decode gm_c36 240 = .ok (.getfield 32, 3) := by decide +kernel
theorem gd_36_243 : decode gm_c36 243 = .ok (.iload_n 1, 1) := by decide +kernel
theorem gd_36_244 : decode gm_c36 244 = .ok (.iaload, 1) := by decide +kernel
theorem gd_36_245 : decode gm_c36 245 = .ok (.imul, 1) := by decide +kernel
theorem gd_36_246 : decode gm_c36 246 = .ok (.iload 4, 2) := by decide +kernel
theorem gd_36_248 : decode gm_c36 248 = .ok (.iadd, 1) := by decide +kernel
theorem gd_36_249 : decode gm_c36 249 = .ok (.iaload, 1) := by decide +kernel
theorem gd_36_250 : decode gm_c36 250 = .ok (.istore 4, 2) := by decide +kernel
theorem gd_36_252 : decode gm_c36 252 = .ok (.goto (-36), 3) := by decide +kernel
theorem gd_36_255 : decode gm_c36 255 = .ok (.goto (19), 3) := by decide +kernel
theorem gd_36_258 : decode gm_c36 258 = .ok (.iload_n 3, 1) := by decide +kernel
theorem gd_36_259 : decode gm_c36 259 = .ok (.iconst 2, 1) := by decide +kernel
theorem gd_36_260 : decode gm_c36 260 = .ok (.if_icmp .eq (14), 3) := by decide +kernel
theorem gd_36_263 : decode gm_c36 263 = .ok (.aload_n 0, 1) := by decide +kernel
theorem gd_36_264 : decode gm_c36 264 = .ok (.aload_n 0, 1) := by decide +kernel
theorem gd_36_265 : decode gm_c36 265 = .ok (.getfield 32, 3) := by decide +kernel
theorem gd_36_268 : decode gm_c36 268 = .ok (.iload_n 1, 1) := by decide +kernel
theorem gd_36_269 : decode gm_c36 269 = .ok (.iaload, 1) := by decide +kernel
theorem gd_36_270 : decode gm_c36 270 = .ok (.iload_n 2, 1) := by decide +kernel
theorem gd_36_271 : decode gm_c36 271 = .ok (.invokevirtual 194, 3) := by decide +kernel
theorem gd_36_274 : decode gm_c36 274 = .ok (.return_, 1) := by decide +kernel
theorem gd_37_0 : decode gm_c37 0 = .ok (.iconst 0, 1) := by decide +kernel
theorem gd_37_1 : decode gm_c37 1 = .ok (.istore_n 3, 1) := by decide +kernel
theorem gd_37_2 : decode gm_c37 2 = .ok (.iload_n 3, 1) := by decide +kernel
theorem gd_37_3 : decode gm_c37 3 = .ok (.sipush (2600), 3) := by decide +kernel
theorem gd_37_6 : decode gm_c37 6 = .ok (.if_icmp .ge (16), 3) := by decide +kernel
theorem gd_37_9 : decode gm_c37 9 = .ok (.aload_n 0, 1) := by decide +kernel
theorem gd_37_10 : decode gm_c37 10 = .ok (.getfield 71, 3) := by decide +kernel
theorem gd_37_13 : decode gm_c37 13 = .ok (.iload_n 3, 1) := by decide +kernel
theorem gd_37_14 : decode gm_c37 14 = .ok (.iconst 0, 1) := by decide +kernel
theorem gd_37_15 : decode gm_c37 15 = .ok (.bastore, 1) := by decide +kernel
theorem gd_37_16 : decode gm_c37 16 = .ok (.iinc 3 (1), 3) := by decide +kernel
theorem gd_37_19 : decode gm_c37 19 = .ok (.goto (-17), 3) := by decide +kernel
theorem gd_37_22 : decode gm_c37 22 = .ok (.iconst 0, 1) := by decide +kernel
theorem gd_37_23 : decode gm_c37 23 = .ok (.istore_n 3, 1) := by decide +kernel
theorem gd_37_24 : decode gm_c37 24 = .ok (.iload_n 3, 1) := by decide +kernel
theorem gd_37_25 : decode gm_c37 25 = .ok (.bipush (52), 2) := by decide +kernel
theorem gd_37_27 : decode gm_c37 27 = .ok (.if_icmp .ge (16), 3) := by decide +kernel
theorem gd_37_30 : decode gm_c37 30 = .ok (.aload_n 0, 1) := by decide +kernel
theorem gd_37_31 : decode gm_c37 31 = .ok (.getfield 77, 3) := by decide +kernel
theorem gd_37_34 : decode gm_c37 34 = .ok (.iload_n 3, 1) := by decide +kernel
theorem gd_37_35 : decode gm_c37 35 = .ok (.iconst 0, 1) := by decide +kernel
theorem gd_37_36 : decode gm_c37 36 = .ok (.bastore, 1) := by decide +kernel
theorem gd_37_37 : decode gm_c37 37 = .ok (.iinc 3 (1), 3) := by decide +kernel
theorem gd_37_40 : decode gm_c37 40 = .ok (.goto (-16), 3) := by decide +kernel
theorem gd_37_43 : decode gm_c37 43 = .ok (.aload_n 0, 1) := by decide +kernel
theorem gd_37_44 : decode gm_c37 44 = .ok (.iconst (-1), 1) := by decide +kernel
theorem gd_37_45 : decode gm_c37 45 = .ok (.putfield 86, 3) := by decide +kernel
theorem gd_37_48 : decode gm_c37 48 = .ok (.aload_n 0, 1) := by decide +kernel
theorem gd_37_49 : decode gm_c37 49 = .ok (.iconst 0, 1) := by decide +kernel
theorem gd_37_50 : decode gm_c37 50 = .ok (.putfield 191, 3) := by decide +kernel
theorem gd_37_53 : decode gm_c37 53 = .ok (.aload_n 0, 1) := by decide +kernel
theorem gd_37_54 : decode gm_c37 54 = .ok (.iconst 0, 1) := by decide +kernel
theorem gd_37_55 : decode gm_c37 55 = .ok (.putfield 188, 3) := by decide +kernel
theorem gd_37_58 : decode gm_c37 58 = .ok (.aload_n 0, 1) := by decide +kernel
theorem gd_37_59 : decode gm_c37 59 = .ok (.iload_n 1, 1) := by decide +kernel
theorem gd_37_60 : decode gm_c37 60 = .ok (.iload_n 2, 1) := by decide +kernel
theorem gd_37_61 : decode gm_c37 61 = .ok (.invokevirtual 197, 3) := by decide +kernel
theorem gd_37_64 : decode gm_c37 64 = .ok (.aload_n 0, 1) := by decide +kernel
theorem gd_37_65 : decode gm_c37 65 = .ok (.getfield 188, 3) := by decide +kernel
theorem gd_37_68 : decode gm_c37 68 = .ok (.ifCond .le (38), 3) := by decide +kernel
theorem gd_37_71 : decode gm_c37 71 = .ok (.aload_n 0, 1) := by decide +kernel
theorem gd_37_72 : decode gm_c37 72 = .ok (.dup, 1) := by decide +kernel
theorem gd_37_73 : decode gm_c37 73 = .ok (.getfield 188, 3) := by decide +kernel
theorem gd_37_76 : decode gm_c37 76 = .ok (.iconst 1, 1) := by decide +kernel
theorem gd_37_77 : decode gm_c37 77 = .ok (.isub, 1) := by decide +kernel
theorem gd_37_78 : decode gm_c37 78 = .ok (.putfield 188, 3) := by decide +kernel
theorem gd_37_81 : decode gm_c37 81 = .ok (.aload_n 0, 1) := by decide +kernel
theorem gd_37_82 : decode gm_c37 82 = .ok (.getfield 74, 3) := by decide +kernel
theorem gd_37_85 : decode gm_c37 85 = .ok (.aload_n 0, 1) := by decide +kernel
theorem gd_37_86 : decode gm_c37 86 = .ok (.getfield 188, 3) := by decide +kernel
theorem gd_37_89 : decode gm_c37 89 = .ok (.iaload, 1) := by decide +kernel
theorem gd_37_90 : decode gm_c37 90 = .ok (.istore_n 3, 1) := by decide +kernel
theorem gd_37_91 : decode gm_c37 91 = .ok (.aload_n 0, 1) := by decide +kernel
theorem gd_37_92 : decode gm_c37 92 = .ok (.iload_n 3, 1) := by decide +kernel
theorem gd_37_93 : decode gm_c37 93 = .ok (.bipush (13), 2) := by decide +kernel
theorem gd_37_95 : decode gm_c37 95 = .ok (.idiv, 1) := by decide +kernel
theorem gd_37_96 : decode gm_c37 96 = .ok (.iload_n 3, 1) := by decide +kernel
theorem gd_37_97 : decode gm_c37 97 = .ok (.bipush (13), 2) := by decide +kernel
theorem gd_37_99 : decode gm_c37 99 = .ok (.irem, 1) := by decide +kernel
theorem gd_37_100 : decode gm_c37 100 = .ok (.invokevirtual 200, 3) := by decide +kernel
theorem gd_37_103 : decode gm_c37 103 = .ok (.goto (-39), 3) := by decide +kernel
theorem gd_37_106 : decode gm_c37 106 = .ok (.return_, 1) := by decide +kernel
theorem gd_38_0 : decode gm_c38 0 = .ok (.aload_n 0, 1) := by decide +kernel
theorem gd_38_1 : decode gm_c38 1 = .ok (.getfield 203, 3) := by decide +kernel
theorem gd_38_4 : decode gm_c38 4 = .ok (.bipush (40), 2) := by decide +kernel
theorem gd_38_6 : decode gm_c38 6 = .ok (.if_icmp .ge (33), 3) := by decide +kernel
theorem gd_38_9 : decode gm_c38 9 = .ok (.aload_n 0, 1) := by decide +kernel
theorem gd_38_10 : decode gm_c38 10 = .ok (.getfield 80, 3) := by decide +kernel
theorem gd_38_13 : decode gm_c38 13 = .ok (.aload_n 0, 1) := by decide +kernel
theorem gd_38_14 : decode gm_c38 14 = .ok (.getfield 203, 3) := by decide +kernel
theorem gd_38_17 : decode gm_c38 17 = .ok (.iload_n 1, 1) := by decide +kernel
theorem gd_38_18 : decode gm_c38 18 = .ok (.iastore, 1) := by decide +kernel
theorem gd_38_19 : decode gm_c38 19 = .ok (.aload_n 0, 1) := by decide +kernel
theorem gd_38_20 : decode gm_c38 20 = .ok (.getfield 83, 3) := by decide +kernel
theorem gd_38_23 : decode gm_c38 23 = .ok (.aload_n 0, 1) := by decide +kernel
theorem gd_38_24 : decode gm_c38 24 = .ok (.getfield 203, 3) := by decide +kernel
theorem gd_38_27 : decode gm_c38 27 = .ok (.iload_n 2, 1) := by decide +kernel
theorem gd_38_28 : decode gm_c38 28 = .ok (.iastore, 1) := by decide +kernel
theorem gd_38_29 : decode gm_c38 29 = .ok (.aload_n 0, 1) := by decide +kernel
theorem gd_38_30 : decode gm_c38 30 = .ok (.dup, 1) := by decide +kernel
theorem gd_38_31 : decode gm_c38 31 = .ok (.getfield 203, 3) := by decide +kernel
theorem gd_38_34 : decode gm_c38 34 = .ok (.iconst 1, 1) := by decide +kernel
theorem gd_38_35 : decode gm_c38 35 = .ok (.iadd, 1) := by decide +kernel
theorem gd_38_36 : decode gm_c38 36 = .ok (.putfield 203, 3) := by decide +kernel
theorem gd_38_39 : decode gm_c38 39 = .ok (.return_, 1) := by decide +kernel
theorem gd_39_0 : decode gm_c39 0 = .ok (.iload_n 1, 1) := by decide +kernel
theorem gd_39_1 : decode gm_c39 1 = .ok (.istore_n 2, 1) := by decide +kernel
theorem gd_39_2 : decode gm_c39 2 = .ok (.aload_n 0, 1) := by decide +kernel
theorem gd_39_3 : decode gm_c39 3 = .ok (.getfield 188, 3) := by decide +kernel
theorem gd_39_6 : decode gm_c39 6 = .ok (.iconst 1, 1) := by decide +kernel
theorem gd_39_7 : decode gm_c39 7 = .ok (.isub, 1) := by decide +kernel
theorem gd_39_8 : decode gm_c39 8 = .ok (.istore_n 3, 1) := by decide +kernel
theorem gd_39_9 : decode gm_c39 9 = .ok (.iload_n 2, 1) := by decide +kernel
theorem gd_39_10 : decode gm_c39 10 = .ok (.iload_n 3, 1) := by decide +kernel
theorem gd_39_11 : decode gm_c39 11 = .ok (.if_icmp .ge (40), 3) := by decide +kernel
theorem gd_39_14 : decode gm_c39 14 = .ok (.aload_n 0, 1) := by decide +kernel
theorem gd_39_15 : decode gm_c39 15 = .ok (.getfield 74, 3) := by decide +kernel
theorem gd_39_18 : decode gm_c39 18 = .ok (.iload_n 2, 1) := by decide +kernel
theorem gd_39_19 : decode gm_c39 19 = .ok (.iaload, 1) := by decide +kernel
theorem gd_39_20 : decode gm_c39 20 = .ok (.istore 4, 2) := by decide +kernel
theorem gd_39_22 : decode gm_c39 22 = .ok (.aload_n 0, 1) := by decide +kernel
theorem gd_39_23 : decode gm_c39 23 = .ok (.getfield 74, 3) := by decide +kernel
theorem gd_39_26 : decode gm_c39 26 = .ok (.iload_n 2, 1) := by decide +kernel
theorem gd_39_27 : decode gm_c39 27 = .ok (.aload_n 0, 1) := by decide +kernel
theorem gd_39_28 : decode gm_c39 28 = .ok (.getfield 74, 3) := by decide +kernel
theorem gd_39_31 : decode gm_c39 31 = .ok (.iload_n 3, 1) := by decide +kernel
theorem gd_39_32 : decode gm_c39 32 = .ok (.iaload, 1) := by decide +kernel
theorem gd_39_33 : decode gm_c39 33 = .ok (.iastore, 1) := by decide +kernel
theorem gd_39_34 : decode gm_c39 34 = .ok (.aload_n 0, 1) := by decide +kernel
theorem gd_39_35 : decode gm_c39 35 = .ok (.getfield 74, 3) := by decide +kernel
theorem gd_39_38 : decode gm_c39 38 = .ok (.iload_n 3, 1) := by decide +kernel
theorem gd_39_39 : decode gm_c39 39 = .ok (.iload 4, 2) := by decide +kernel
theorem gd_39_41 : decode gm_c39 41 = .ok (.iastore, 1) := by decide +kernel
theorem gd_39_42 : decode gm_c39 42 = .ok (.iinc 2 (1), 3) := by decide +kernel
theorem gd_39_45 : decode gm_c39 45 = .ok (.iinc 3 (-1), 3) := by decide +kernel
theorem gd_39_48 : decode gm_c39 48 = .ok (.goto (-39), 3) := by decide +kernel
theorem gd_39_51 : decode gm_c39 51 = .ok (.return_, 1) := by decide +kernel
theorem gd_40_0 : decode gm_c40 0 = .ok (.aload_n 0, 1) := by decide +kernel
theorem gd_40_1 : decode gm_c40 1 = .ok (.getfield 74, 3) := by decide +kernel
theorem gd_40_4 : decode gm_c40 4 = .ok (.aload_n 0, 1) := by decide +kernel
theorem gd_40_5 : decode gm_c40 5 = .ok (.getfield 188, 3) := by decide +kernel
theorem gd_40_8 : decode gm_c40 8 = .ok (.bipush (13), 2) := by decide +kernel
theorem gd_40_10 : decode gm_c40 10 = .ok (.iload_n 1, 1) := by decide +kernel
theorem gd_40_11 : decode gm_c40 11 = .ok (.imul, 1) := by decide +kernel
theorem gd_40_12 : decode gm_c40 12 = .ok (.iload_n 2, 1) := by decide +kernel
theorem gd_40_13 : decode gm_c40 13 = .ok (.iadd, 1) := by decide +kernel
theorem gd_40_14 : decode gm_c40 14 = .ok (.iastore, 1) := by decide +kernel
theorem gd_40_15 : decode gm_c40 15 = .ok (.aload_n 0, 1) := by decide +kernel
theorem gd_40_16 : decode gm_c40 16 = .ok (.dup, 1) := by decide +kernel
theorem gd_40_17 : decode gm_c40 17 = .ok (.getfield 188, 3) := by decide +kernel
theorem gd_40_20 : decode gm_c40 20 = .ok (.iconst 1, 1) := by decide +kernel
theorem gd_40_21 : decode gm_c40 21 = .ok (.iadd, 1) := by decide +kernel
theorem gd_40_22 : decode gm_c40 22 = .ok (.putfield 188, 3) := by decide +kernel
theorem gd_40_25 : decode gm_c40 25 = .ok (.return_, 1) := by decide +kernel
theorem gd_41_0 : decode gm_c41 0 = .ok (.aload_n 0, 1) := by decide +kernel
theorem gd_41_1 : decode gm_c41 1 = .ok (.getfield 29, 3) := by decide +kernel
theorem gd_41_4 : decode gm_c41 4 = .ok (.iload_n 1, 1) := by decide +kernel
theorem gd_41_5 : decode gm_c41 5 = .ok (.iaload, 1) := by decide +kernel
theorem gd_41_6 : decode gm_c41 6 = .ok (.istore_n 3, 1) := by decide +kernel
theorem gd_41_7 : decode gm_c41 7 = .ok (.aload_n 0, 1) := by decide +kernel
theorem gd_41_8 : decode gm_c41 8 = .ok (.getfield 188, 3) := by decide +kernel
theorem gd_41_11 : decode gm_c41 11 = .ok (.istore 4, 2) := by decide +kernel
theorem gd_41_13 : decode gm_c41 13 = .ok (.iload_n 3, 1) := by decide +kernel
theorem gd_41_14 : decode gm_c41 14 = .ok (.iconst 2, 1) := by decide +kernel
theorem gd_41_15 : decode gm_c41 15 = .ok (.if_icmp .ne (12), 3) := by decide +kernel
theorem gd_41_18 : decode gm_c41 18 = .ok (.aload_n 0, 1) := by decide +kernel
theorem gd_41_19 : decode gm_c41 19 = .ok (.iload_n 2, 1) := by decide +kernel
theorem gd_41_20 : decode gm_c41 20 = .ok (.iload_n 2, 1) := by decide +kernel
theorem gd_41_21 : decode gm_c41 21 = .ok (.invokevirtual 206, 3) := by decide +kernel
theorem gd_41_24 : decode gm_c41 24 = .ok (.goto (271), 3) := by decide +kernel
theorem gd_41_27 : decode gm_c41 27 = .ok (.iload_n 3, 1) := by decide +kernel
theorem gd_41_28 : decode gm_c41 28 = .ok (.iconst 3, 1) := by decide +kernel
theorem gd_41_29 : decode gm_c41 29 = .ok (.if_icmp .ne (33), 3) := by decide +kernel
theorem gd_41_32 : decode gm_c41 32 = .ok (.aload_n 0, 1) := by decide +kernel
theorem gd_41_33 : decode gm_c41 33 = .ok (.iload_n 2, 1) := by decide +kernel
theorem gd_41_34 : decode gm_c41 34 = .ok (.aload_n 0, 1) := by decide +kernel
theorem gd_41_35 : decode gm_c41 35 = .ok (.getfield 68, 3) := by decide +kernel
theorem gd_41_38 : decode gm_c41 38 = .ok (.bipush (13), 2) := by decide +kernel
theorem gd_41_40 : decode gm_c41 40 = .ok (.iload_n 1, 1) := by decide +kernel
theorem gd_41_41 : decode gm_c41 41 = .ok (.imul, 1) := by decide +kernel
theorem gd_41_42 : decode gm_c41 42 = .ok (.iload_n 2, 1) := by decide +kernel
theorem gd_41_43 : decode gm_c41 43 = .ok (.iadd, 1) := by decide +kernel
theorem gd_41_44 : decode gm_c41 44 = .ok (.iaload, 1) := by decide +kernel
theorem gd_41_45 : decode gm_c41 45 = .ok (.invokevirtual 206, 3) := by decide +kernel
theorem gd_41_48 : decode gm_c41 48 = .ok (.aload_n 0, 1) := by decide +kernel
theorem gd_41_49 : decode gm_c41 49 = .ok (.aload_n 0, 1) := by decide +kernel
theorem gd_41_50 : decode gm_c41 50 = .ok (.getfield 32, 3) := by decide +kernel
theorem gd_41_53 : decode gm_c41 53 = .ok (.iload_n 1, 1) := by decide +kernel
theorem gd_41_54 : decode gm_c41 54 = .ok (.iaload, 1) := by decide +kernel
theorem gd_41_55 : decode gm_c41 55 = .ok (.iload_n 2, 1) := by decide +kernel
theorem gd_41_56 : decode gm_c41 56 = .ok (.invokevirtual 209, 3) := by decide +kernel
theorem gd_41_59 : decode gm_c41 59 = .ok (.goto (236), 3) := by decide +kernel
theorem gd_41_62 : decode gm_c41 62 = .ok (.iload_n 3, 1) := by decide +kernel
theorem gd_41_63 : decode gm_c41 63 = .ok (.iconst 1, 1) := by decide +kernel
theorem gd_41_64 : decode gm_c41 64 = .ok (.if_icmp .ne (20), 3) := by decide +kernel
theorem gd_41_67 : decode gm_c41 67 = .ok (.aload_n 0, 1) := by decide +kernel
theorem gd_41_68 : decode gm_c41 68 = .ok (.bipush (40), 2) := by decide +kernel
theorem gd_41_70 : decode gm_c41 70 = .ok (.aload_n 0, 1) := by decide +kernel
theorem gd_41_71 : decode gm_c41 71 = .ok (.getfield 32, 3) := by decide +kernel
theorem gd_41_74 : decode gm_c41 74 = .ok (.iload_n 1, 1) := by decide +kernel
theorem gd_41_75 : decode gm_c41 75 = .ok (.iaload, 1) := by decide +kernel
theorem gd_41_76 : decode gm_c41 76 = .ok (.imul, 1) := by decide +kernel
theorem gd_41_77 : decode gm_c41 77 = .ok (.iload_n 2, 1) := by decide +kernel
theorem gd_41_78 : decode gm_c41 78 = .ok (.invokevirtual 209, 3) := by decide +kernel
theorem gd_41_81 : decode gm_c41 81 = .ok (.goto (214), 3) := by decide +kernel
theorem gd_41_84 : decode gm_c41 84 = .ok (.iload_n 3, 1) := by decide +kernel
theorem gd_41_85 : decode gm_c41 85 = .ok (.bipush (10), 2) := by decide +kernel
theorem gd_41_87 : decode gm_c41 87 = .ok (.if_icmp .ne (48), 3) := by decide +kernel
theorem gd_41_90 : decode gm_c41 90 = .ok (.aload_n 0, 1) := by decide +kernel
theorem gd_41_91 : decode gm_c41 91 = .ok (.getfield 32, 3) := by decide +kernel
theorem gd_41_94 : decode gm_c41 94 = .ok (.iload_n 1, 1) := by decide +kernel
theorem gd_41_95 : decode gm_c41 95 = .ok (.iaload, 1) := by decide +kernel
theorem gd_41_96 : decode gm_c41 96 = .ok (.istore 5, 2) := by decide +kernel
theorem gd_41_98 : decode gm_c41 98 = .ok (.aload_n 0, 1) := by decide +kernel
theorem gd_41_99 : decode gm_c41 99 = .ok (.getfield 68, 3) := by decide +kernel
theorem gd_41_102 : decode gm_c41 102 = .ok (.bipush (13), 2) := by decide +kernel
theorem gd_41_104 : decode gm_c41 104 = .ok (.iload 5, 2) := by decide +kernel
theorem gd_41_106 : decode gm_c41 106 = .ok (.imul, 1) := by decide +kernel
theorem gd_41_107 : decode gm_c41 107 = .ok (.iload_n 2, 1) := by decide +kernel
theorem gd_41_108 : decode gm_c41 108 = .ok (.iadd, 1) := by decide +kernel
theorem gd_41_109 : decode gm_c41 109 = .ok (.iaload, 1) := by decide +kernel
theorem gd_41_110 : decode gm_c41 110 = .ok (.ifCond .ge (15), 3) := by decide +kernel
theorem gd_41_113 : decode gm_c41 113 = .ok (.aload_n 0, 1) := by decide +kernel
theorem gd_41_114 : decode gm_c41 114 = .ok (.getfield 38, 3) := by decide +kernel
theorem gd_41_117 : decode gm_c41 117 = .ok (.iload 5, 2) := by decide +kernel
theorem gd_41_119 : decode gm_c41 119 = .ok (.iaload, 1) := by decide +kernel
theorem gd_41_120 : decode gm_c41 120 = .ok (.istore 5, 2) := by decide +kernel
theorem gd_41_122 : decode gm_c41 122 = .ok (.goto (-24), 3) := by decide +kernel
theorem gd_41_125 : decode gm_c41 125 = .ok (.aload_n 0, 1) := by decide +kernel
theorem gd_41_126 : decode gm_c41 126 = .ok (.iload 5, 2) := by decide +kernel
theorem gd_41_128 : decode gm_c41 128 = .ok (.iload_n 2, 1) := by decide +kernel
theorem gd_41_129 : decode gm_c41 129 = .ok (.invokevirtual 209, 3) := by decide +kernel
theorem gd_41_132 : decode gm_c41 132 = .ok (.goto (163), 3) := by decide +kernel
theorem gd_41_135 : decode gm_c41 135 = .ok (.iload_n 3, 1) := by decide +kernel
theorem gd_41_136 : decode gm_c41 136 = .ok (.bipush (9), 2) := by decide +kernel
theorem gd_41_138 : decode gm_c41 138 = .ok (.if_icmp .ne (63), 3) := by decide +kernel
theorem gd_41_141 : decode gm_c41 141 = .ok (.iload_n 2, 1) := by decide +kernel
theorem gd_41_142 : decode gm_c41 142 = .ok (.istore 5, 2) := by decide +kernel
theorem gd_41_144 : decode gm_c41 144 = .ok (.aload_n 0, 1) := by decide +kernel
theorem gd_41_145 : decode gm_c41 145 = .ok (.getfield 32, 3) := by decide +kernel
theorem gd_41_148 : decode gm_c41 148 = .ok (.iload_n 1, 1) := by decide +kernel
theorem gd_41_149 : decode gm_c41 149 = .ok (.iaload, 1) := by decide +kernel
theorem gd_41_150 : decode gm_c41 150 = .ok (.istore 6, 2) := by decide +kernel
theorem gd_41_152 : decode gm_c41 152 = .ok (.iload 6, 2) := by decide +kernel
theorem gd_41_154 : decode gm_c41 154 = .ok (.ifCond .lt (38), 3) := by decide +kernel
theorem gd_41_157 : decode gm_c41 157 = .ok (.aload_n 0, 1) := by decide +kernel
theorem gd_41_158 : decode gm_c41 158 = .ok (.iload 6, 2) := by decide +kernel
theorem gd_41_160 : decode gm_c41 160 = .ok (.iload 5, 2) := by decide +kernel
theorem gd_41_162 : decode gm_c41 162 = .ok (.invokevirtual 209, 3) := by decide +kernel
theorem gd_41_165 : decode gm_c41 165 = .ok (.aload_n 0, 1) := by decide +kernel
theorem gd_41_166 : decode gm_c41 166 = .ok (.getfield 68, 3) := by decide +kernel
theorem gd_41_169 : decode gm_c41 169 = .ok (.bipush (13), 2) := by decide +kernel
theorem gd_41_171 : decode gm_c41 171 = .ok (.iload 6, 2) := by decide +kernel
theorem gd_41_173 : decode gm_c41 173 = .ok (.imul, 1) := by decide +kernel
theorem gd_41_174 : decode gm_c41 174 = .ok (.iload 5, 2) := by decide +kernel
theorem gd_41_176 : decode gm_c41 176 = .ok (.iadd, 1) := by decide +kernel
theorem gd_41_177 : decode gm_c41 177 = .ok (.iaload, 1) := by decide +kernel
theorem gd_41_178 : decode gm_c41 178 = .ok (.istore 5, 2) := by decide +kernel
theorem gd_41_180 : decode gm_c41 180 = .ok (.aload_n 0, 1) := by decide +kernel
theorem gd_41_181 : decode gm_c41 181 = .ok (.getfield 38, 3) := by decide +kernel
theorem gd_41_184 : decode gm_c41 184 = .ok (.iload 6, 2) := by decide +kernel
theorem gd_41_186 : decode gm_c41 186 = .ok (.iaload, 1) := by decide +kernel
theorem gd_41_187 : decode gm_c41 187 = .ok (.istore 6, 2) := by decide +kernel
theorem gd_41_189 : decode gm_c41 189 = .ok (.goto (-37), 3) := by decide +kernel
theorem gd_41_192 : decode gm_c41 192 = .ok (.aload_n 0, 1) := by decide +kernel
theorem gd_41_193 : decode gm_c41 193 = .ok (.iload 4, 2) := by decide +kernel
theorem gd_41_195 : decode gm_c41 195 = .ok (.invokevirtual 212, 3) := by decide +kernel
theorem gd_41_198 : decode gm_c41 198 = .ok (.goto (97), 3) := by decide +kernel
theorem gd_41_201 : decode gm_c41 201 = .ok (.iload_n 3, 1) := by decide +kernel
theorem gd_41_202 : decode gm_c41 202 = .ok (.iconst 4, 1) := by decide +kernel
theorem gd_41_203 : decode gm_c41 203 = .ok (.if_icmp .eq (14), 3) := by decide +kernel
theorem gd_41_206 : decode gm_c41 206 = .ok (.iload_n 3, 1) := by decide +kernel
theorem gd_41_207 : decode gm_c41 207 = .ok (.iconst 5, 1) := by decide +kernel
theorem gd_41_208 : decode gm_c41 208 = .ok (.if_icmp .eq (9), 3) := by decide +kernel
theorem gd_41_211 : decode gm_c41 211 = .ok (.iload_n 3, 1) := by decide +kernel
theorem gd_41_212 : decode gm_c41 212 = .ok (.bipush (6), 2) := by decide +kernel
theorem gd_41_214 : decode gm_c41 214 = .ok (.if_icmp .ne (81), 3) := by decide +kernel
theorem gd_41_217 : decode gm_c41 217 = .ok (.iload_n 2, 1) := by decide +kernel
theorem gd_41_218 : decode gm_c41 218 = .ok (.istore 5, 2) := by decide +kernel
theorem gd_41_220 : decode gm_c41 220 = .ok (.aload_n 0, 1) := by decide +kernel
theorem gd_41_221 : decode gm_c41 221 = .ok (.getfield 68, 3) := by decide +kernel
theorem gd_41_224 : decode gm_c41 224 = .ok (.bipush (13), 2) := by decide +kernel
theorem gd_41_226 : decode gm_c41 226 = .ok (.aload_n 0, 1) := by decide +kernel
theorem gd_41_227 : decode gm_c41 227 = .ok (.getfield 32, 3) := by decide +kernel
theorem gd_41_230 : decode gm_c41 230 = .ok (.iload_n 1, 1) := by decide +kernel
theorem gd_41_231 : decode gm_c41 231 = .ok (.iaload, 1) := by decide +kernel
theorem gd_41_232 : decode gm_c41 232 = .ok (.imul, 1) := by decide +kernel
theorem gd_41_233 : decode gm_c41 233 = .ok (.iload 5, 2) := by decide +kernel
theorem gd_41_235 : decode gm_c41 235 = .ok (.iadd, 1) := by decide +kernel
theorem gd_41_236 : decode gm_c41 236 = .ok (.iaload, 1) := by decide +kernel
theorem gd_41_237 : decode gm_c41 237 = .ok (.ifCond .lt (52), 3) := by decide +kernel
theorem gd_41_240 : decode gm_c41 240 = .ok (.iload_n 3, 1) := by decide +kernel
theorem gd_41_241 : decode gm_c41 241 = .ok (.bipush (6), 2) := by decide +kernel
theorem gd_41_243 : decode gm_c41 243 = .ok (.if_icmp .ne (12), 3) := by decide +kernel
theorem gd_41_246 : decode gm_c41 246 = .ok (.aload_n 0, 1) := by decide +kernel
theorem gd_41_247 : decode gm_c41 247 = .ok (.getfield 188, 3) := by decide +kernel
theorem gd_41_250 : decode gm_c41 250 = .ok (.iload 4, 2) := by decide +kernel
theorem gd_41_252 : decode gm_c41 252 = .ok (.if_icmp .ne (37), 3) := by decide +kernel
theorem gd_41_255 : decode gm_c41 255 = .ok (.aload_n 0, 1) := by decide +kernel
theorem gd_41_256 : decode gm_c41 256 = .ok (.aload_n 0, 1) := by decide +kernel
theorem gd_41_257 : decode gm_c41 257 = .ok (.getfield 32, 3) := by decide +kernel
theorem gd_41_260 : decode gm_c41 260 = .ok (.iload_n 1, 1) := by decide +kernel
theorem gd_41_261 : decode gm_c41 261 = .ok (.iaload, 1) := by decide +kernel
theorem gd_41_262 : decode gm_c41 262 = .ok (.iload 5, 2) := by decide +kernel
theorem gd_41_264 : decode gm_c41 264 = .ok (.invokevirtual 209, 3) := by decide +kernel
theorem gd_41_267 : decode gm_c41 267 = .ok (.aload_n 0, 1) := by decide +kernel
theorem gd_41_268 : decode gm_c41 268 = .ok (.getfield 68, 3) := by decide +kernel
theorem gd_41_271 : decode gm_c41 271 = .ok (.bipush (13), 2) := by decide +kernel
theorem gd_41_273 : decode gm_c41 273 = .ok (.aload_n 0, 1) := by decide +kernel
theorem gd_41_274 : decode gm_c41 274 = .ok (.getfield 32, 3) := by decide +kernel
theorem gd_41_277 : decode gm_c41 277 = .ok (.iload_n 1, 1) := by decide +kernel
theorem gd_41_278 : decode gm_c41 278 = .ok (.iaload, 1) := by decide +kernel
theorem gd_41_279 : decode gm_c41 279 = .ok (.imul, 1) := by decide +kernel
theorem gd_41_280 : decode gm_c41 280 = .ok (.iload 5, 2) := by decide +kernel
theorem gd_41_282 : decode gm_c41 282 = .ok (.iadd, 1) := by decide +kernel
theorem gd_41_283 : decode gm_c41 283 = .ok (.iaload, 1) := by decide +kernel
theorem gd_41_284 : decode gm_c41 284 = .ok (.istore 5, 2) := by decide +kernel
theorem gd_41_286 : decode gm_c41 286 = .ok (.goto (-66), 3) := by decide +kernel
theorem gd_41_289 : decode gm_c41 289 = .ok (.aload_n 0, 1) := by decide +kernel
theorem gd_41_290 : decode gm_c41 290 = .ok (.iload 4, 2) := by decide +kernel
theorem gd_41_292 : decode gm_c41 292 = .ok (.invokevirtual 212, 3) := by decide +kernel
theorem gd_41_295 : decode gm_c41 295 = .ok (.return_, 1) := by decide +kernel
theorem gd_42_0 : decode gm_c42 0 = .ok (.aload_n 0, 1) := by decide +kernel
theorem gd_42_1 : decode gm_c42 1 = .ok (.iload_n 1, 1) := by decide +kernel
theorem gd_42_2 : decode gm_c42 2 = .ok (.iload_n 2, 1) := by decide +kernel
theorem gd_42_3 : decode gm_c42 3 = .ok (.invokevirtual 215, 3) := by decide +kernel
theorem gd_42_6 : decode gm_c42 6 = .ok (.aload_n 0, 1) := by decide +kernel
theorem gd_42_7 : decode gm_c42 7 = .ok (.iconst 0, 1) := by decide +kernel
theorem gd_42_8 : decode gm_c42 8 = .ok (.putfield 203, 3) := by decide +kernel
theorem gd_42_11 : decode gm_c42 11 = .ok (.aload_n 0, 1) := by decide +kernel
theorem gd_42_12 : decode gm_c42 12 = .ok (.getfield 68, 3) := by decide +kernel
theorem gd_42_15 : decode gm_c42 15 = .ok (.sipush (520), 3) := by decide +kernel
theorem gd_42_18 : decode gm_c42 18 = .ok (.iload_n 1, 1) := by decide +kernel
theorem gd_42_19 : decode gm_c42 19 = .ok (.imul, 1) := by decide +kernel
theorem gd_42_20 : decode gm_c42 20 = .ok (.iload_n 2, 1) := by decide +kernel
theorem gd_42_21 : decode gm_c42 21 = .ok (.iadd, 1) := by decide +kernel
theorem gd_42_22 : decode gm_c42 22 = .ok (.iaload, 1) := by decide +kernel
theorem gd_42_23 : decode gm_c42 23 = .ok (.istore_n 3, 1) := by decide +kernel
theorem gd_42_24 : decode gm_c42 24 = .ok (.aload_n 0, 1) := by decide +kernel
theorem gd_42_25 : decode gm_c42 25 = .ok (.iconst 0, 1) := by decide +kernel
theorem gd_42_26 : decode gm_c42 26 = .ok (.putfield 188, 3) := by decide +kernel
theorem gd_42_29 : decode gm_c42 29 = .ok (.iload_n 3, 1) := by decide +kernel
theorem gd_42_30 : decode gm_c42 30 = .ok (.ifCond .lt (12), 3) := by decide +kernel
theorem gd_42_33 : decode gm_c42 33 = .ok (.aload_n 0, 1) := by decide +kernel
theorem gd_42_34 : decode gm_c42 34 = .ok (.bipush (40), 2) := by decide +kernel
theorem gd_42_36 : decode gm_c42 36 = .ok (.iload_n 1, 1) := by decide +kernel
theorem gd_42_37 : decode gm_c42 37 = .ok (.imul, 1) := by decide +kernel
theorem gd_42_38 : decode gm_c42 38 = .ok (.iload_n 2, 1) := by decide +kernel
theorem gd_42_39 : decode gm_c42 39 = .ok (.invokevirtual 209, 3) := by decide +kernel
theorem gd_42_42 : decode gm_c42 42 = .ok (.aload_n 0, 1) := by decide +kernel
theorem gd_42_43 : decode gm_c42 43 = .ok (.getfield 188, 3) := by decide +kernel
theorem gd_42_46 : decode gm_c42 46 = .ok (.ifCond .le (50), 3) := by decide +kernel
theorem gd_42_49 : decode gm_c42 49 = .ok (.aload_n 0, 1) := by decide +kernel
theorem gd_42_50 : decode gm_c42 50 = .ok (.getfield 203, 3) := by decide +kernel
theorem gd_42_53 : decode gm_c42 53 = .ok (.bipush (40), 2) := by decide +kernel
theorem gd_42_55 : decode gm_c42 55 = .ok (.if_icmp .ge (41), 3) := by decide +kernel
theorem gd_42_58 : decode gm_c42 58 = .ok (.aload_n 0, 1) := by decide +kernel
theorem gd_42_59 : decode gm_c42 59 = .ok (.dup, 1) := by decide +kernel
theorem gd_42_60 : decode gm_c42 60 = .ok (.getfield 188, 3) := by decide +kernel
theorem gd_42_63 : decode gm_c42 63 = .ok (.iconst 1, 1) := by decide +kernel
theorem gd_42_64 : decode gm_c42 64 = .ok (.isub, 1) := by decide +kernel
theorem gd_42_65 : decode gm_c42 65 = .ok (.putfield 188, 3) := by decide +kernel
theorem gd_42_68 : decode gm_c42 68 = .ok (.aload_n 0, 1) := by decide +kernel
theorem gd_42_69 : decode gm_c42 69 = .ok (.getfield 74, 3) := by decide +kernel
theorem gd_42_72 : decode gm_c42 72 = .ok (.aload_n 0, 1) := by decide +kernel
theorem gd_42_73 : decode gm_c42 73 = .ok (.getfield 188, 3) := by decide +kernel
theorem gd_42_76 : decode gm_c42 76 = .ok (.iaload, 1) := by decide +kernel
theorem gd_42_77 : decode gm_c42 77 = .ok (.istore 4, 2) := by decide +kernel
theorem gd_42_79 : decode gm_c42 79 = .ok (.aload_n 0, 1) := by decide +kernel
theorem gd_42_80 : decode gm_c42 80 = .ok (.iload 4, 2) := by decide +kernel
theorem gd_42_82 : decode gm_c42 82 = .ok (.bipush (13), 2) := by decide +kernel
theorem gd_42_84 : decode gm_c42 84 = .ok (.idiv, 1) := by decide +kernel
theorem gd_42_85 : decode gm_c42 85 = .ok (.iload 4, 2) := by decide +kernel
theorem gd_42_87 : decode gm_c42 87 = .ok (.bipush (13), 2) := by decide +kernel
theorem gd_42_89 : decode gm_c42 89 = .ok (.irem, 1) := by decide +kernel
theorem gd_42_90 : decode gm_c42 90 = .ok (.invokevirtual 218, 3) := by decide +kernel
theorem gd_42_93 : decode gm_c42 93 = .ok (.goto (-51), 3) := by decide +kernel
theorem gd_42_96 : decode gm_c42 96 = .ok (.iload_n 3, 1) := by decide +kernel
theorem gd_42_97 : decode gm_c42 97 = .ok (.ireturn, 1) := by decide +kernel
theorem gd_43_0 : decode gm_c43 0 = .ok (.aload_n 0, 1) := by decide +kernel
theorem gd_43_1 : decode gm_c43 1 = .ok (.iload_n 1, 1) := by decide +kernel
theorem gd_43_2 : decode gm_c43 2 = .ok (.invokestatic 155, 3) := by decide +kernel
theorem gd_43_5 : decode gm_c43 5 = .ok (.ifCond .eq (15), 3) := by decide +kernel
theorem gd_43_8 : decode gm_c43 8 = .ok (.iload_n 2, 1) := by decide +kernel
theorem gd_43_9 : decode gm_c43 9 = .ok (.ifCond .lt (11), 3) := by decide +kernel
theorem gd_43_12 : decode gm_c43 12 = .ok (.iload_n 2, 1) := by decide +kernel
theorem gd_43_13 : decode gm_c43 13 = .ok (.aload_n 0, 1) := by decide +kernel
theorem gd_43_14 : decode gm_c43 14 = .ok (.getfield 100, 3) := by decide +kernel
theorem gd_43_17 : decode gm_c43 17 = .ok (.if_icmp .le (7), 3) := by decide +kernel
theorem gd_43_20 : decode gm_c43 20 = .ok (.iconst 1, 1) := by decide +kernel
theorem gd_43_21 : decode gm_c43 21 = .ok (.goto (16), 3) := by decide +kernel
theorem gd_43_24 : decode gm_c43 24 = .ok (.aload_n 0, 1) := by decide +kernel
theorem gd_43_25 : decode gm_c43 25 = .ok (.iload_n 1, 1) := by decide +kernel
theorem gd_43_26 : decode gm_c43 26 = .ok (.invokevirtual 173, 3) := by decide +kernel
theorem gd_43_29 : decode gm_c43 29 = .ok (.ifCond .eq (7), 3) := by decide +kernel
theorem gd_43_32 : decode gm_c43 32 = .ok (.iconst 2, 1) := by decide +kernel
theorem gd_43_33 : decode gm_c43 33 = .ok (.goto (4), 3) := by decide +kernel
theorem gd_43_36 : decode gm_c43 36 = .ok (.iconst 0, 1) := by decide +kernel
theorem gd_43_37 : decode gm_c43 37 = .ok (.putfield 90, 3) := by decide +kernel
theorem gd_43_40 : decode gm_c43 40 = .ok (.aload_n 0, 1) := by decide +kernel
theorem gd_43_41 : decode gm_c43 41 = .ok (.getfield 90, 3) := by decide +kernel
theorem gd_43_44 : decode gm_c43 44 = .ok (.ifCond .le (5), 3) := by decide +kernel
theorem gd_43_47 : decode gm_c43 47 = .ok (.iconst 0, 1) := by decide +kernel
theorem gd_43_48 : decode gm_c43 48 = .ok (.ireturn, 1) := by decide +kernel
theorem gd_43_49 : decode gm_c43 49 = .ok (.aload_n 0, 1) := by decide +kernel
theorem gd_43_50 : decode gm_c43 50 = .ok (.invokevirtual 221, 3) := by decide +kernel
theorem gd_43_53 : decode gm_c43 53 = .ok (.aload_n 0, 1) := by decide +kernel
theorem gd_43_54 : decode gm_c43 54 = .ok (.iload_n 1, 1) := by decide +kernel
theorem gd_43_55 : decode gm_c43 55 = .ok (.iload_n 2, 1) := by decide +kernel
theorem gd_43_56 : decode gm_c43 56 = .ok (.invokevirtual 224, 3) := by decide +kernel
theorem gd_43_59 : decode gm_c43 59 = .ok (.ireturn, 1) := by decide +kernel
theorem gd_44_0 : decode gm_c44 0 = .ok (.aload_n 0, 1) := by decide +kernel
theorem gd_44_1 : decode gm_c44 1 = .ok (.iload_n 1, 1) := by decide +kernel
theorem gd_44_2 : decode gm_c44 2 = .ok (.invokestatic 155, 3) := by decide +kernel
theorem gd_44_5 : decode gm_c44 5 = .ok (.ifCond .ne (7), 3) := by decide +kernel
theorem gd_44_8 : decode gm_c44 8 = .ok (.iconst 1, 1) := by decide +kernel
theorem gd_44_9 : decode gm_c44 9 = .ok (.goto (16), 3) := by decide +kernel
theorem gd_44_12 : decode gm_c44 12 = .ok (.aload_n 0, 1) := by decide +kernel
theorem gd_44_13 : decode gm_c44 13 = .ok (.iload_n 1, 1) := by decide +kernel
theorem gd_44_14 : decode gm_c44 14 = .ok (.invokevirtual 173, 3) := by decide +kernel
theorem gd_44_17 : decode gm_c44 17 = .ok (.ifCond .eq (7), 3) := by decide +kernel
theorem gd_44_20 : decode gm_c44 20 = .ok (.iconst 2, 1) := by decide +kernel
theorem gd_44_21 : decode gm_c44 21 = .ok (.goto (4), 3) := by decide +kernel
theorem gd_44_24 : decode gm_c44 24 = .ok (.iconst 0, 1) := by decide +kernel
theorem gd_44_25 : decode gm_c44 25 = .ok (.putfield 90, 3) := by decide +kernel
theorem gd_44_28 : decode gm_c44 28 = .ok (.aload_n 0, 1) := by decide +kernel
theorem gd_44_29 : decode gm_c44 29 = .ok (.getfield 90, 3) := by decide +kernel
theorem gd_44_32 : decode gm_c44 32 = .ok (.ifCond .le (5), 3) := by decide +kernel
theorem gd_44_35 : decode gm_c44 35 = .ok (.iconst 0, 1) := by decide +kernel
theorem gd_44_36 : decode gm_c44 36 = .ok (.ireturn, 1) := by decide +kernel
theorem gd_44_37 : decode gm_c44 37 = .ok (.aload_n 0, 1) := by decide +kernel
theorem gd_44_38 : decode gm_c44 38 = .ok (.invokevirtual 221, 3) := by decide +kernel
theorem gd_44_41 : decode gm_c44 41 = .ok (.iconst 0, 1) := by decide +kernel
theorem gd_44_42 : decode gm_c44 42 = .ok (.istore_n 2, 1) := by decide +kernel
theorem gd_44_43 : decode gm_c44 43 = .ok (.iload_n 2, 1) := by decide +kernel
theorem gd_44_44 : decode gm_c44 44 = .ok (.aload_n 0, 1) := by decide +kernel
theorem gd_44_45 : decode gm_c44 45 = .ok (.getfield 100, 3) := by decide +kernel
theorem gd_44_48 : decode gm_c44 48 = .ok (.if_icmp .gt (18), 3) := by decide +kernel
theorem gd_44_51 : decode gm_c44 51 = .ok (.aload_n 0, 1) := by decide +kernel
theorem gd_44_52 : decode gm_c44 52 = .ok (.iload_n 1, 1) := by decide +kernel
theorem gd_44_53 : decode gm_c44 53 = .ok (.iload_n 2, 1) := by decide +kernel
theorem gd_44_54 : decode gm_c44 54 = .ok (.invokevirtual 224, 3) := by decide +kernel
theorem gd_44_57 : decode gm_c44 57 = .ok (.ifCond .ge (9), 3) := by decide +kernel
theorem gd_44_60 : decode gm_c44 60 = .ok (.iinc 2 (1), 3) := by decide +kernel
theorem gd_44_63 : decode gm_c44 63 = .ok (.goto (-20), 3) := by decide +kernel
theorem gd_44_66 : decode gm_c44 66 = .ok (.iload_n 2, 1) := by decide +kernel
theorem gd_44_67 : decode gm_c44 67 = .ok (.aload_n 0, 1) := by decide +kernel
theorem gd_44_68 : decode gm_c44 68 = .ok (.getfield 100, 3) := by decide +kernel
theorem gd_44_71 : decode gm_c44 71 = .ok (.if_icmp .le (7), 3) := by decide +kernel
theorem gd_44_74 : decode gm_c44 74 = .ok (.iconst (-1), 1) := by decide +kernel
theorem gd_44_75 : decode gm_c44 75 = .ok (.goto (4), 3) := by decide +kernel
theorem gd_44_78 : decode gm_c44 78 = .ok (.iload_n 2, 1) := by decide +kernel
theorem gd_44_79 : decode gm_c44 79 = .ok (.ireturn, 1) := by decide +kernel
theorem gd_45_0 : decode gm_c45 0 = .ok (.aload_n 0, 1) := by decide +kernel
theorem gd_45_1 : decode gm_c45 1 = .ok (.iconst 0, 1) := by decide +kernel
theorem gd_45_2 : decode gm_c45 2 = .ok (.putfield 90, 3) := by decide +kernel
theorem gd_45_5 : decode gm_c45 5 = .ok (.aload_n 0, 1) := by decide +kernel
theorem gd_45_6 : decode gm_c45 6 = .ok (.getfield 203, 3) := by decide +kernel
theorem gd_45_9 : decode gm_c45 9 = .ok (.ireturn, 1) := by decide +kernel
theorem gd_46_0 : decode gm_c46 0 = .ok (.aload_n 0, 1) := by decide +kernel
theorem gd_46_1 : decode gm_c46 1 = .ok (.iload_n 1, 1) := by decide +kernel
theorem gd_46_2 : decode gm_c46 2 = .ok (.ifCond .lt (20), 3) := by decide +kernel
theorem gd_46_5 : decode gm_c46 5 = .ok (.iload_n 1, 1) := by decide +kernel
theorem gd_46_6 : decode gm_c46 6 = .ok (.aload_n 0, 1) := by decide +kernel
theorem gd_46_7 : decode gm_c46 7 = .ok (.getfield 203, 3) := by decide +kernel
theorem gd_46_10 : decode gm_c46 10 = .ok (.if_icmp .ge (12), 3) := by decide +kernel
theorem gd_46_13 : decode gm_c46 13 = .ok (.iload_n 2, 1) := by decide +kernel
theorem gd_46_14 : decode gm_c46 14 = .ok (.ifCond .lt (8), 3) := by decide +kernel
theorem gd_46_17 : decode gm_c46 17 = .ok (.iload_n 2, 1) := by decide +kernel
theorem gd_46_18 : decode gm_c46 18 = .ok (.iconst 1, 1) := by decide +kernel
theorem gd_46_19 : decode gm_c46 19 = .ok (.if_icmp .le (7), 3) := by decide +kernel
theorem gd_46_22 : decode gm_c46 22 = .ok (.iconst 1, 1) := by decide +kernel
theorem gd_46_23 : decode gm_c46 23 = .ok (.goto (4), 3) := by decide +kernel
theorem gd_46_26 : decode gm_c46 26 = .ok (.iconst 0, 1) := by decide +kernel
theorem gd_46_27 : decode gm_c46 27 = .ok (.putfield 90, 3) := by decide +kernel
theorem gd_46_30 : decode gm_c46 30 = .ok (.aload_n 0, 1) := by decide +kernel
theorem gd_46_31 : decode gm_c46 31 = .ok (.getfield 90, 3) := by decide +kernel
theorem gd_46_34 : decode gm_c46 34 = .ok (.ifCond .le (5), 3) := by decide +kernel
theorem gd_46_37 : decode gm_c46 37 = .ok (.iconst 0, 1) := by decide +kernel
theorem gd_46_38 : decode gm_c46 38 = .ok (.ireturn, 1) := by decide +kernel
theorem gd_46_39 : decode gm_c46 39 = .ok (.iload_n 2, 1) := by decide +kernel
theorem gd_46_40 : decode gm_c46 40 = .ok (.ifCond .ne (12), 3) := by decide +kernel
theorem gd_46_43 : decode gm_c46 43 = .ok (.aload_n 0, 1) := by decide +kernel
theorem gd_46_44 : decode gm_c46 44 = .ok (.getfield 80, 3) := by decide +kernel
theorem gd_46_47 : decode gm_c46 47 = .ok (.iload_n 1, 1) := by decide +kernel
theorem gd_46_48 : decode gm_c46 48 = .ok (.iaload, 1) := by decide +kernel
theorem gd_46_49 : decode gm_c46 49 = .ok (.goto (9), 3) := by decide +kernel
theorem gd_46_52 : decode gm_c46 52 = .ok (.aload_n 0, 1) := by decide +kernel
theorem gd_46_53 : decode gm_c46 53 = .ok (.getfield 83, 3) := by decide +kernel
theorem gd_46_56 : decode gm_c46 56 = .ok (.iload_n 1, 1) := by decide +kernel
theorem gd_46_57 : decode gm_c46 57 = .ok (.iaload, 1) := by decide +kernel
theorem gd_46_58 : decode gm_c46 58 = .ok (.ireturn, 1) := by decide +kernel
theorem gd_47_0 : decode gm_c47 0 = .ok (.aload_n 0, 1) := by decide +kernel
theorem gd_47_1 : decode gm_c47 1 = .ok (.iconst 0, 1) := by decide +kernel
theorem gd_47_2 : decode gm_c47 2 = .ok (.putfield 90, 3) := by decide +kernel
theorem gd_47_5 : decode gm_c47 5 = .ok (.aload_n 0, 1) := by decide +kernel
theorem gd_47_6 : decode gm_c47 6 = .ok (.getfield 86, 3) := by decide +kernel
theorem gd_47_9 : decode gm_c47 9 = .ok (.ireturn, 1) := by decide +kernel
theorem gd_48_0 : decode gm_c48 0 = .ok (.aload_n 0, 1) := by decide +kernel
theorem gd_48_1 : decode gm_c48 1 = .ok (.iconst 0, 1) := by decide +kernel
theorem gd_48_2 : decode gm_c48 2 = .ok (.putfield 90, 3) := by decide +kernel
theorem gd_48_5 : decode gm_c48 5 = .ok (.aload_n 0, 1) := by decide +kernel
theorem gd_48_6 : decode gm_c48 6 = .ok (.getfield 191, 3) := by decide +kernel
theorem gd_48_9 : decode gm_c48 9 = .ok (.ireturn, 1) := by decide +kernel
end
section
/-! The tables are right. -/
set_option maxRecDepth 100000 in
set_option maxHeartbeats 4000000 in
theorem gm_o0 {G : (Nat → Prop) → State → Heap → Prop} (hGo : gx_Gok G) (l : Launch) : gx_all (gx_Sn l (gm_z G) (gm_cl, gm_tyl, G, Cond.code gm_y0 gm_c0 1 none :: gm_WS, gm_c0, gm_y0, 1, none)) gm_b0 :=
  ⟨(gq_aload_n gd_0_0).sn,
   gs_obj (gm_f _ gm_w860) (gm_f _ gm_w36) (gm_f _ gm_w37) gd_0_1,
   (gq_aload_n gd_0_4).sn,
   (gq_bipush gd_0_5 (by decide)).sn,
   (gs_newi rfl (gm_f _ gm_w79) gd_0_7).sn,
   (gs_putF (Cn := gm_R4) (T := gm_T4) (N := 35) rfl gm_in4c gm_t4 gm_ty4 gm_nm4 (by decide) (by decide +kernel) (gm_f _ gm_w862) rfl rfl rfl gd_0_9).sn,
   (gq_aload_n gd_0_12).sn,
   (gq_bipush gd_0_13 (by decide)).sn,
   (gs_newi rfl (gm_f _ gm_w79) gd_0_15).sn,
   (gs_putF (Cn := gm_R4) (T := gm_T4) (N := 35) rfl gm_in4c gm_t4 gm_ty4 gm_nm4 (by decide) (by decide +kernel) (gm_f _ gm_w864) rfl rfl rfl gd_0_17).sn,
   (gq_aload_n gd_0_20).sn,
   (gq_iconst gd_0_21 (by decide)).sn,
   (gs_newz rfl (gm_f _ gm_w967) gd_0_22).sn,
   (gs_putF (Cn := gm_R4) (T := gm_T4) (N := 35) rfl gm_in4c gm_t4 gm_ty4 gm_nm4 (by decide) (by decide +kernel) (gm_f _ gm_w866) rfl rfl rfl gd_0_24).sn,
   (gq_aload_n gd_0_27).sn,
   (gq_bipush gd_0_28 (by decide)).sn,
   (gs_newi rfl (gm_f _ gm_w79) gd_0_30).sn,
   (gs_putF (Cn := gm_R4) (T := gm_T4) (N := 35) rfl gm_in4c gm_t4 gm_ty4 gm_nm4 (by decide) (by decide +kernel) (gm_f _ gm_w867) rfl rfl rfl gd_0_32).sn,
   (gq_aload_n gd_0_35).sn,
   (gq_iconst gd_0_36 (by decide)).sn,
   (gs_newi rfl (gm_f _ gm_w79) gd_0_37).sn,
   (gs_putF (Cn := gm_R4) (T := gm_T4) (N := 35) rfl gm_in4c gm_t4 gm_ty4 gm_nm4 (by decide) (by decide +kernel) (gm_f _ gm_w868) rfl rfl rfl gd_0_39).sn,
   (gq_aload_n gd_0_42).sn,
   (gq_iconst gd_0_43 (by decide)).sn,
   (gs_newi rfl (gm_f _ gm_w79) gd_0_44).sn,
   (gs_putF (Cn := gm_R4) (T := gm_T4) (N := 35) rfl gm_in4c gm_t4 gm_ty4 gm_nm4 (by decide) (by decide +kernel) (gm_f _ gm_w869) rfl rfl rfl gd_0_46).sn,
   (gq_aload_n gd_0_49).sn,
   (gq_sipush gd_0_50 (by decide)).sn,
   (gs_newi rfl (gm_f _ gm_w79) gd_0_53).sn,
   (gs_putF (Cn := gm_R4) (T := gm_T4) (N := 35) rfl gm_in4c gm_t4 gm_ty4 gm_nm4 (by decide) (by decide +kernel) (gm_f _ gm_w870) rfl rfl rfl gd_0_55).sn,
   (gq_aload_n gd_0_58).sn,
   (gq_sipush gd_0_59 (by decide)).sn,
   (gs_newi rfl (gm_f _ gm_w79) gd_0_62).sn,
   (gs_putF (Cn := gm_R4) (T := gm_T4) (N := 35) rfl gm_in4c gm_t4 gm_ty4 gm_nm4 (by decide) (by decide +kernel) (gm_f _ gm_w871) rfl rfl rfl gd_0_64).sn,
   (gq_aload_n gd_0_67).sn,
   (gq_sipush gd_0_68 (by decide)).sn,
   (gs_newi rfl (gm_f _ gm_w79) gd_0_71).sn,
   (gs_putF (Cn := gm_R4) (T := gm_T4) (N := 35) rfl gm_in4c gm_t4 gm_ty4 gm_nm4 (by decide) (by decide +kernel) (gm_f _ gm_w872) rfl rfl rfl gd_0_73).sn,
   (gq_aload_n gd_0_76).sn,
   (gq_sipush gd_0_77 (by decide)).sn,
   (gs_newi rfl (gm_f _ gm_w79) gd_0_80).sn,
   (gs_putF (Cn := gm_R4) (T := gm_T4) (N := 35) rfl gm_in4c gm_t4 gm_ty4 gm_nm4 (by decide) (by decide +kernel) (gm_f _ gm_w873) rfl rfl rfl gd_0_82).sn,
   (gq_aload_n gd_0_85).sn,
   (gq_sipush gd_0_86 (by decide)).sn,
   (gs_newi rfl (gm_f _ gm_w79) gd_0_89).sn,
   (gs_putF (Cn := gm_R4) (T := gm_T4) (N := 35) rfl gm_in4c gm_t4 gm_ty4 gm_nm4 (by decide) (by decide +kernel) (gm_f _ gm_w874) rfl rfl rfl gd_0_91).sn,
   (gq_aload_n gd_0_94).sn,
   (gq_sipush gd_0_95 (by decide)).sn,
   (gs_newz rfl (gm_f _ gm_w967) gd_0_98).sn,
   (gs_putF (Cn := gm_R4) (T := gm_T4) (N := 35) rfl gm_in4c gm_t4 gm_ty4 gm_nm4 (by decide) (by decide +kernel) (gm_f _ gm_w875) rfl rfl rfl gd_0_100).sn,
   (gq_aload_n gd_0_103).sn,
   (gq_sipush gd_0_104 (by decide)).sn,
   (gs_newi rfl (gm_f _ gm_w79) gd_0_107).sn,
   (gs_putF (Cn := gm_R4) (T := gm_T4) (N := 35) rfl gm_in4c gm_t4 gm_ty4 gm_nm4 (by decide) (by decide +kernel) (gm_f _ gm_w876) rfl rfl rfl gd_0_109).sn,
   (gq_aload_n gd_0_112).sn,
   (gq_iconst gd_0_113 (by decide)).sn,
   (gs_newi rfl (gm_f _ gm_w79) gd_0_114).sn,
   (gs_putF (Cn := gm_R4) (T := gm_T4) (N := 35) rfl gm_in4c gm_t4 gm_ty4 gm_nm4 (by decide) (by decide +kernel) (gm_f _ gm_w877) rfl rfl rfl gd_0_116).sn,
   (gq_aload_n gd_0_119).sn,
   (gq_bipush gd_0_120 (by decide)).sn,
   (gs_newi rfl (gm_f _ gm_w79) gd_0_122).sn,
   (gs_putF (Cn := gm_R4) (T := gm_T4) (N := 35) rfl gm_in4c gm_t4 gm_ty4 gm_nm4 (by decide) (by decide +kernel) (gm_f _ gm_w881) rfl rfl rfl gd_0_124).sn,
   (gq_aload_n gd_0_127).sn,
   (gq_bipush gd_0_128 (by decide)).sn,
   (gs_newi rfl (gm_f _ gm_w79) gd_0_130).sn,
   (gs_putF (Cn := gm_R4) (T := gm_T4) (N := 35) rfl gm_in4c gm_t4 gm_ty4 gm_nm4 (by decide) (by decide +kernel) (gm_f _ gm_w882) rfl rfl rfl gd_0_132).sn,
   (gq_aload_n gd_0_135).sn,
   (gq_bipush gd_0_136 (by decide)).sn,
   (gs_newi rfl (gm_f _ gm_w79) gd_0_138).sn,
   (gs_putF (Cn := gm_R4) (T := gm_T4) (N := 35) rfl gm_in4c gm_t4 gm_ty4 gm_nm4 (by decide) (by decide +kernel) (gm_f _ gm_w883) rfl rfl rfl gd_0_140).sn,
   (gq_aload_n gd_0_143).sn,
   (gq_bipush gd_0_144 (by decide)).sn,
   (gs_newi rfl (gm_f _ gm_w79) gd_0_146).sn,
   (gs_putF (Cn := gm_R4) (T := gm_T4) (N := 35) rfl gm_in4c gm_t4 gm_ty4 gm_nm4 (by decide) (by decide +kernel) (gm_f _ gm_w884) rfl rfl rfl gd_0_148).sn,
   (gq_aload_n gd_0_151).sn,
   (gq_bipush gd_0_152 (by decide)).sn,
   (gs_newi rfl (gm_f _ gm_w79) gd_0_154).sn,
   (gs_putF (Cn := gm_R4) (T := gm_T4) (N := 35) rfl gm_in4c gm_t4 gm_ty4 gm_nm4 (by decide) (by decide +kernel) (gm_f _ gm_w885) rfl rfl rfl gd_0_156).sn,
   (gq_aload_n gd_0_159).sn,
   (gq_sipush gd_0_160 (by decide)).sn,
   (gs_newi rfl (gm_f _ gm_w79) gd_0_163).sn,
   (gs_putF (Cn := gm_R4) (T := gm_T4) (N := 35) rfl gm_in4c gm_t4 gm_ty4 gm_nm4 (by decide) (by decide +kernel) (gm_f _ gm_w886) rfl rfl rfl gd_0_165).sn,
   (gq_aload_n gd_0_168).sn,
   (gq_sipush gd_0_169 (by decide)).sn,
   (gs_newz rfl (gm_f _ gm_w967) gd_0_172).sn,
   (gs_putF (Cn := gm_R4) (T := gm_T4) (N := 35) rfl gm_in4c gm_t4 gm_ty4 gm_nm4 (by decide) (by decide +kernel) (gm_f _ gm_w887) rfl rfl rfl gd_0_174).sn,
   (gq_aload_n gd_0_177).sn,
   (gq_sipush gd_0_178 (by decide)).sn,
   (gs_newi rfl (gm_f _ gm_w79) gd_0_181).sn,
   (gs_putF (Cn := gm_R4) (T := gm_T4) (N := 35) rfl gm_in4c gm_t4 gm_ty4 gm_nm4 (by decide) (by decide +kernel) (gm_f _ gm_w888) rfl rfl rfl gd_0_183).sn,
   (gq_aload_n gd_0_186).sn,
   (gq_bipush gd_0_187 (by decide)).sn,
   (gs_newz rfl (gm_f _ gm_w967) gd_0_189).sn,
   (gs_putF (Cn := gm_R4) (T := gm_T4) (N := 35) rfl gm_in4c gm_t4 gm_ty4 gm_nm4 (by decide) (by decide +kernel) (gm_f _ gm_w890) rfl rfl rfl gd_0_191).sn,
   (gq_aload_n gd_0_194).sn,
   (gq_bipush gd_0_195 (by decide)).sn,
   (gs_newi rfl (gm_f _ gm_w79) gd_0_197).sn,
   (gs_putF (Cn := gm_R4) (T := gm_T4) (N := 35) rfl gm_in4c gm_t4 gm_ty4 gm_nm4 (by decide) (by decide +kernel) (gm_f _ gm_w892) rfl rfl rfl gd_0_199).sn,
   (gq_aload_n gd_0_202).sn,
   (gq_bipush gd_0_203 (by decide)).sn,
   (gs_newi rfl (gm_f _ gm_w79) gd_0_205).sn,
   (gs_putF (Cn := gm_R4) (T := gm_T4) (N := 35) rfl gm_in4c gm_t4 gm_ty4 gm_nm4 (by decide) (by decide +kernel) (gm_f _ gm_w893) rfl rfl rfl gd_0_207).sn,
   (gq_aload_n gd_0_210).sn,
   (gq_iconst gd_0_211 (by decide)).sn,
   (gs_puti (Cn := gm_R4) (T := gm_T4) (N := 35) rfl gm_in4c gm_t4 gm_ty4 gm_nm4 (by decide) (by decide +kernel) (gm_f _ gm_w894) rfl gd_0_212).sn,
   (gs_ret gd_0_215).sn, trivial⟩
set_option maxRecDepth 100000 in
set_option maxHeartbeats 4000000 in
theorem gm_o1 {G : (Nat → Prop) → State → Heap → Prop} (hGo : gx_Gok G) (l : Launch) : gx_all (gx_Sn l (gm_z G) (gm_cl, gm_tyl, G, Cond.code gm_y1 gm_c1 1 (some .int) :: gm_WS, gm_c1, gm_y1, 1, (some .int))) gm_b1 :=
  ⟨(gq_aload_n gd_1_0).sn,
   (gs_get (Cn := gm_R4) (T := gm_T4) (N := 35) rfl gm_in4c (by decide) (gm_f _ gm_w861) gd_1_1).sn,
   (gs_ireti gd_1_4).sn, trivial⟩
set_option maxRecDepth 100000 in
set_option maxHeartbeats 4000000 in
theorem gm_o2 {G : (Nat → Prop) → State → Heap → Prop} (hGo : gx_Gok G) (l : Launch) : gx_all (gx_Sn l (gm_z G) (gm_cl, gm_tyl, G, Cond.code gm_y2 gm_c2 1 (some .boolean) :: gm_WS, gm_c2, gm_y2, 1, (some .boolean))) gm_b2 :=
  ⟨(gq_iload_n gd_2_0).sn,
   (gq_if_lt gd_2_1 (by decide)).sn,
   (gq_iload_n gd_2_4).sn,
   (gq_iconst gd_2_5 (by decide)).sn,
   (gq_icmp_ge gd_2_6 (by decide)).sn,
   (gq_iconst gd_2_9 (by decide)).sn,
   (gq_goto gd_2_10 (by decide)).sn,
   (gq_iconst gd_2_13 (by decide)).sn,
   (gs_iret gd_2_14).sn, trivial⟩
set_option maxRecDepth 100000 in
set_option maxHeartbeats 4000000 in
theorem gm_o3 {G : (Nat → Prop) → State → Heap → Prop} (hGo : gx_Gok G) (l : Launch) : gx_all (gx_Sn l (gm_z G) (gm_cl, gm_tyl, G, Cond.code gm_y3 gm_c3 3 (some .int) :: gm_WS, gm_c3, gm_y3, 3, (some .int))) gm_b3 :=
  ⟨(gq_iconst gd_3_0 (by decide)).sn,
   (gq_istore_n gd_3_1).sn,
   (gq_iload_n gd_3_2).sn,
   (gq_iconst gd_3_3 (by decide)).sn,
   (gq_icmp_ge gd_3_4 (by decide)).sn,
   (gq_iload_n gd_3_7).sn,
   (gq_bipush gd_3_8 (by decide)).sn,
   (gq_iload_n gd_3_10).sn,
   (gq_imul gd_3_11).sn,
   (gq_ishr gd_3_12).sn,
   (gq_sipush gd_3_13 (by decide)).sn,
   (gq_iand gd_3_16).sn,
   (gq_if_eq gd_3_17 (by decide)).sn,
   (gq_iload_n gd_3_20).sn,
   (gq_bipush gd_3_21 (by decide)).sn,
   (gq_iload_n gd_3_23).sn,
   (gq_imul gd_3_24).sn,
   (gq_ishr gd_3_25).sn,
   (gq_sipush gd_3_26 (by decide)).sn,
   (gq_iand gd_3_29).sn,
   (gq_istore_n gd_3_30).sn,
   (gq_iload_n gd_3_31).sn,
   (gq_bipush gd_3_32 (by decide)).sn,
   (gq_icmp_lt gd_3_34 (by decide)).sn,
   (gq_iload_n gd_3_37).sn,
   (gq_bipush gd_3_38 (by decide)).sn,
   (gq_icmp_le gd_3_40 (by decide)).sn,
   (gq_iconst gd_3_43 (by decide)).sn,
   (gs_ireti gd_3_44).sn,
   (gs_inc gd_3_45).sn,
   (gq_goto gd_3_48 (by decide)).sn,
   (gq_iload_n gd_3_51).sn,
   (gs_ireti gd_3_52).sn, trivial⟩
set_option maxRecDepth 100000 in
set_option maxHeartbeats 4000000 in
theorem gm_o4 {G : (Nat → Prop) → State → Heap → Prop} (hGo : gx_Gok G) (l : Launch) : gx_all (gx_Sn l (gm_z G) (gm_cl, gm_tyl, G, Cond.code gm_y4 gm_c4 4 (some .boolean) :: gm_WS, gm_c4, gm_y4, 4, (some .boolean))) gm_b4 :=
  ⟨(gq_iload_n gd_4_0).sn,
   gs_callS (zs := gm_z G) rfl hGo (gm_good gm_k3) rfl (gm_f _ gm_w5) (gm_f _ gm_w976) (gm_f _ gm_w977) (by decide +kernel) (by decide) gd_4_1,
   (gq_istore_n gd_4_4).sn,
   (gq_aload_n gd_4_5).sn,
   (gq_iload_n gd_4_6).sn,
   (gq_if_ge gd_4_7 (by decide)).sn,
   (gq_iconst gd_4_10 (by decide)).sn,
   (gq_goto gd_4_11 (by decide)).sn,
   (gq_iconst gd_4_14 (by decide)).sn,
   (gs_puti (Cn := gm_R4) (T := gm_T4) (N := 35) rfl gm_in4c gm_t4 gm_ty4 gm_nm4 (by decide) (by decide +kernel) (gm_f _ gm_w861) rfl gd_4_15).sn,
   (gq_iload_n gd_4_18).sn,
   (gq_if_lt gd_4_19 (by decide)).sn,
   (gq_aload_n gd_4_22).sn,
   (gs_get (Cn := gm_R4) (T := gm_T4) (N := 35) rfl gm_in4c (by decide) (gm_f _ gm_w863) gd_4_23).sn,
   (gq_iload_n gd_4_26).sn,
   (gq_iadd gd_4_27).sn,
   (gq_bipush gd_4_28 (by decide)).sn,
   (gq_icmp_le gd_4_30 (by decide)).sn,
   (gq_iconst gd_4_33 (by decide)).sn,
   (gs_iret gd_4_34).sn,
   (gq_iconst gd_4_35 (by decide)).sn,
   (gq_istore_n gd_4_36).sn,
   (gq_iload_n gd_4_37).sn,
   (gq_iload_n gd_4_38).sn,
   (gq_icmp_ge gd_4_39 (by decide)).sn,
   (gq_aload_n gd_4_42).sn,
   (gs_get (Cn := gm_R4) (T := gm_T4) (N := 35) rfl gm_in4c (by decide) (gm_f _ gm_w862) gd_4_43).sn,
   (gq_aload_n gd_4_46).sn,
   (gs_get (Cn := gm_R4) (T := gm_T4) (N := 35) rfl gm_in4c (by decide) (gm_f _ gm_w863) gd_4_47).sn,
   (gq_iload_n gd_4_50).sn,
   (gq_bipush gd_4_51 (by decide)).sn,
   (gq_iload_n gd_4_53).sn,
   (gq_imul gd_4_54).sn,
   (gq_ishr gd_4_55).sn,
   (gq_sipush gd_4_56 (by decide)).sn,
   (gq_iand gd_4_59).sn,
   (gs_iast rfl gd_4_60).sn,
   (gq_aload_n gd_4_61).sn,
   (gs_dup gd_4_62).sn,
   (gs_get (Cn := gm_R4) (T := gm_T4) (N := 35) rfl gm_in4c (by decide) (gm_f _ gm_w863) gd_4_63).sn,
   (gq_iconst gd_4_66 (by decide)).sn,
   (gq_iadd gd_4_67).sn,
   (gs_puti (Cn := gm_R4) (T := gm_T4) (N := 35) rfl gm_in4c gm_t4 gm_ty4 gm_nm4 (by decide) (by decide +kernel) (gm_f _ gm_w863) rfl gd_4_68).sn,
   (gs_inc gd_4_71).sn,
   (gq_goto gd_4_74 (by decide)).sn,
   (gq_iconst gd_4_77 (by decide)).sn,
   (gs_iret gd_4_78).sn, trivial⟩
set_option maxRecDepth 100000 in
set_option maxHeartbeats 4000000 in
theorem gm_o5 {G : (Nat → Prop) → State → Heap → Prop} (hGo : gx_Gok G) (l : Launch) : gx_all (gx_Sn l (gm_z G) (gm_cl, gm_tyl, G, Cond.code gm_y5 gm_c5 4 (some .boolean) :: gm_WS, gm_c5, gm_y5, 4, (some .boolean))) gm_b5 :=
  ⟨(gq_iload_n gd_5_0).sn,
   gs_callS (zs := gm_z G) rfl hGo (gm_good gm_k3) rfl (gm_f _ gm_w5) (gm_f _ gm_w976) (gm_f _ gm_w977) (by decide +kernel) (by decide) gd_5_1,
   (gq_istore_n gd_5_4).sn,
   (gq_aload_n gd_5_5).sn,
   (gq_iload_n gd_5_6).sn,
   (gq_if_ge gd_5_7 (by decide)).sn,
   (gq_iconst gd_5_10 (by decide)).sn,
   (gq_goto gd_5_11 (by decide)).sn,
   (gq_iconst gd_5_14 (by decide)).sn,
   (gs_puti (Cn := gm_R4) (T := gm_T4) (N := 35) rfl gm_in4c gm_t4 gm_ty4 gm_nm4 (by decide) (by decide +kernel) (gm_f _ gm_w861) rfl gd_5_15).sn,
   (gq_iload_n gd_5_18).sn,
   (gq_if_lt gd_5_19 (by decide)).sn,
   (gq_aload_n gd_5_22).sn,
   (gs_get (Cn := gm_R4) (T := gm_T4) (N := 35) rfl gm_in4c (by decide) (gm_f _ gm_w865) gd_5_23).sn,
   (gq_iload_n gd_5_26).sn,
   (gq_iadd gd_5_27).sn,
   (gq_bipush gd_5_28 (by decide)).sn,
   (gq_icmp_le gd_5_30 (by decide)).sn,
   (gq_iconst gd_5_33 (by decide)).sn,
   (gs_iret gd_5_34).sn,
   (gq_iconst gd_5_35 (by decide)).sn,
   (gq_istore_n gd_5_36).sn,
   (gq_iload_n gd_5_37).sn,
   (gq_iload_n gd_5_38).sn,
   (gq_icmp_ge gd_5_39 (by decide)).sn,
   (gq_aload_n gd_5_42).sn,
   (gs_get (Cn := gm_R4) (T := gm_T4) (N := 35) rfl gm_in4c (by decide) (gm_f _ gm_w864) gd_5_43).sn,
   (gq_aload_n gd_5_46).sn,
   (gs_get (Cn := gm_R4) (T := gm_T4) (N := 35) rfl gm_in4c (by decide) (gm_f _ gm_w865) gd_5_47).sn,
   (gq_iload_n gd_5_50).sn,
   (gq_bipush gd_5_51 (by decide)).sn,
   (gq_iload_n gd_5_53).sn,
   (gq_imul gd_5_54).sn,
   (gq_ishr gd_5_55).sn,
   (gq_sipush gd_5_56 (by decide)).sn,
   (gq_iand gd_5_59).sn,
   (gs_iast rfl gd_5_60).sn,
   (gq_aload_n gd_5_61).sn,
   (gs_dup gd_5_62).sn,
   (gs_get (Cn := gm_R4) (T := gm_T4) (N := 35) rfl gm_in4c (by decide) (gm_f _ gm_w865) gd_5_63).sn,
   (gq_iconst gd_5_66 (by decide)).sn,
   (gq_iadd gd_5_67).sn,
   (gs_puti (Cn := gm_R4) (T := gm_T4) (N := 35) rfl gm_in4c gm_t4 gm_ty4 gm_nm4 (by decide) (by decide +kernel) (gm_f _ gm_w865) rfl gd_5_68).sn,
   (gs_inc gd_5_71).sn,
   (gq_goto gd_5_74 (by decide)).sn,
   (gq_iconst gd_5_77 (by decide)).sn,
   (gs_iret gd_5_78).sn, trivial⟩
set_option maxRecDepth 100000 in
set_option maxHeartbeats 4000000 in
theorem gm_o6 {G : (Nat → Prop) → State → Heap → Prop} (hGo : gx_Gok G) (l : Launch) : gx_all (gx_Sn l (gm_z G) (gm_cl, gm_tyl, G, Cond.code gm_y6 gm_c6 2 (some .int) :: gm_WS, gm_c6, gm_y6, 2, (some .int))) gm_b6 :=
  ⟨(gq_aload_n gd_6_0).sn,
   (gq_iconst gd_6_1 (by decide)).sn,
   (gs_puti (Cn := gm_R4) (T := gm_T4) (N := 35) rfl gm_in4c gm_t4 gm_ty4 gm_nm4 (by decide) (by decide +kernel) (gm_f _ gm_w861) rfl gd_6_2).sn,
   (gq_aload_n gd_6_5).sn,
   (gs_get (Cn := gm_R4) (T := gm_T4) (N := 35) rfl gm_in4c (by decide) (gm_f _ gm_w865) gd_6_6).sn,
   (gq_istore_n gd_6_9).sn,
   (gq_aload_n gd_6_10).sn,
   (gq_iconst gd_6_11 (by decide)).sn,
   (gs_puti (Cn := gm_R4) (T := gm_T4) (N := 35) rfl gm_in4c gm_t4 gm_ty4 gm_nm4 (by decide) (by decide +kernel) (gm_f _ gm_w865) rfl gd_6_12).sn,
   (gq_iload_n gd_6_15).sn,
   (gs_ireti gd_6_16).sn, trivial⟩
set_option maxRecDepth 100000 in
set_option maxHeartbeats 4000000 in
theorem gm_o7 {G : (Nat → Prop) → State → Heap → Prop} (hGo : gx_Gok G) (l : Launch) : gx_all (gx_Sn l (gm_z G) (gm_cl, gm_tyl, G, Cond.code gm_y7 gm_c7 2 (some .int) :: gm_WS, gm_c7, gm_y7, 2, (some .int))) gm_b7 :=
  ⟨(gq_iload_n gd_7_0).sn,
   (gq_aload_n gd_7_1).sn,
   (gs_get (Cn := gm_R4) (T := gm_T4) (N := 35) rfl gm_in4c (by decide) (gm_f _ gm_w863) gd_7_2).sn,
   (gq_icmp_ge gd_7_5 (by decide)).sn,
   (gq_aload_n gd_7_8).sn,
   (gs_get (Cn := gm_R4) (T := gm_T4) (N := 35) rfl gm_in4c (by decide) (gm_f _ gm_w862) gd_7_9).sn,
   (gq_iload_n gd_7_12).sn,
   (gs_iald rfl gd_7_13).sn,
   (gq_goto gd_7_14 (by decide)).sn,
   (gq_iconst gd_7_17 (by decide)).sn,
   (gs_ireti gd_7_18).sn, trivial⟩
set_option maxRecDepth 100000 in
set_option maxHeartbeats 4000000 in
theorem gm_o8 {G : (Nat → Prop) → State → Heap → Prop} (hGo : gx_Gok G) (l : Launch) : gx_all (gx_Sn l (gm_z G) (gm_cl, gm_tyl, G, Cond.code gm_y8 gm_c8 1 (some .boolean) :: gm_WS, gm_c8, gm_y8, 1, (some .boolean))) gm_b8 :=
  ⟨(gq_iload_n gd_8_0).sn,
   (gq_bipush gd_8_1 (by decide)).sn,
   (gq_icmp_lt gd_8_3 (by decide)).sn,
   (gq_iload_n gd_8_6).sn,
   (gq_bipush gd_8_7 (by decide)).sn,
   (gq_icmp_le gd_8_9 (by decide)).sn,
   (gq_iload_n gd_8_12).sn,
   (gq_bipush gd_8_13 (by decide)).sn,
   (gq_icmp_lt gd_8_15 (by decide)).sn,
   (gq_iload_n gd_8_18).sn,
   (gq_bipush gd_8_19 (by decide)).sn,
   (gq_icmp_gt gd_8_21 (by decide)).sn,
   (gq_iconst gd_8_24 (by decide)).sn,
   (gq_goto gd_8_25 (by decide)).sn,
   (gq_iconst gd_8_28 (by decide)).sn,
   (gs_iret gd_8_29).sn, trivial⟩
set_option maxRecDepth 100000 in
set_option maxHeartbeats 4000000 in
theorem gm_o9 {G : (Nat → Prop) → State → Heap → Prop} (hGo : gx_Gok G) (l : Launch) : gx_all (gx_Sn l (gm_z G) (gm_cl, gm_tyl, G, Cond.code gm_y9 gm_c9 4 (some .int) :: gm_WS, gm_c9, gm_y9, 4, (some .int))) gm_b9 :=
  ⟨(gq_sipush gd_9_0 (by decide)).sn,
   (gq_aload_n gd_9_3).sn,
   (gs_get (Cn := gm_R4) (T := gm_T4) (N := 35) rfl gm_in4c (by decide) (gm_f _ gm_w869) gd_9_4).sn,
   (gq_iconst gd_9_7 (by decide)).sn,
   (gs_iald rfl gd_9_8).sn,
   (gq_iadd gd_9_9).sn,
   (gq_istore_n gd_9_10).sn,
   (gq_aload_n gd_9_11).sn,
   (gs_get (Cn := gm_R4) (T := gm_T4) (N := 35) rfl gm_in4c (by decide) (gm_f _ gm_w869) gd_9_12).sn,
   (gq_iconst gd_9_15 (by decide)).sn,
   (gs_dup2 gd_9_16).sn,
   (gs_iald rfl gd_9_17).sn,
   (gq_iconst gd_9_18 (by decide)).sn,
   (gq_iadd gd_9_19).sn,
   (gs_iast rfl gd_9_20).sn,
   (gq_aload_n gd_9_21).sn,
   (gs_get (Cn := gm_R4) (T := gm_T4) (N := 35) rfl gm_in4c (by decide) (gm_f _ gm_w870) gd_9_22).sn,
   (gq_iload_n gd_9_25).sn,
   (gq_iload_n gd_9_26).sn,
   (gs_iast rfl gd_9_27).sn,
   (gq_aload_n gd_9_28).sn,
   (gs_get (Cn := gm_R4) (T := gm_T4) (N := 35) rfl gm_in4c (by decide) (gm_f _ gm_w871) gd_9_29).sn,
   (gq_iload_n gd_9_32).sn,
   (gq_iload_n gd_9_33).sn,
   (gs_iast rfl gd_9_34).sn,
   (gq_aload_n gd_9_35).sn,
   (gs_get (Cn := gm_R4) (T := gm_T4) (N := 35) rfl gm_in4c (by decide) (gm_f _ gm_w872) gd_9_36).sn,
   (gq_iload_n gd_9_39).sn,
   (gq_iconst gd_9_40 (by decide)).sn,
   (gs_iast rfl gd_9_41).sn,
   (gq_aload_n gd_9_42).sn,
   (gs_get (Cn := gm_R4) (T := gm_T4) (N := 35) rfl gm_in4c (by decide) (gm_f _ gm_w873) gd_9_43).sn,
   (gq_iload_n gd_9_46).sn,
   (gq_iconst gd_9_47 (by decide)).sn,
   (gs_iast rfl gd_9_48).sn,
   (gq_aload_n gd_9_49).sn,
   (gs_get (Cn := gm_R4) (T := gm_T4) (N := 35) rfl gm_in4c (by decide) (gm_f _ gm_w874) gd_9_50).sn,
   (gq_iload_n gd_9_53).sn,
   (gq_iload_n gd_9_54).sn,
   (gs_iast rfl gd_9_55).sn,
   (gq_iload_n gd_9_56).sn,
   (gs_ireti gd_9_57).sn, trivial⟩
set_option maxRecDepth 100000 in
set_option maxHeartbeats 4000000 in
theorem gm_o10 {G : (Nat → Prop) → State → Heap → Prop} (hGo : gx_Gok G) (l : Launch) : gx_all (gx_Sn l (gm_z G) (gm_cl, gm_tyl, G, Cond.code gm_y10 gm_c10 3 none :: gm_WS, gm_c10, gm_y10, 3, none)) gm_b10 :=
  ⟨(gq_aload_n gd_10_0).sn,
   (gs_get (Cn := gm_R4) (T := gm_T4) (N := 35) rfl gm_in4c (by decide) (gm_f _ gm_w871) gd_10_1).sn,
   (gq_iload_n gd_10_4).sn,
   (gs_iald rfl gd_10_5).sn,
   (gq_if_ge gd_10_6 (by decide)).sn,
   (gq_aload_n gd_10_9).sn,
   (gs_get (Cn := gm_R4) (T := gm_T4) (N := 35) rfl gm_in4c (by decide) (gm_f _ gm_w871) gd_10_10).sn,
   (gq_iload_n gd_10_13).sn,
   (gq_iload_n gd_10_14).sn,
   (gs_iast rfl gd_10_15).sn,
   (gq_goto gd_10_16 (by decide)).sn,
   (gq_aload_n gd_10_19).sn,
   (gs_get (Cn := gm_R4) (T := gm_T4) (N := 35) rfl gm_in4c (by decide) (gm_f _ gm_w873) gd_10_20).sn,
   (gq_aload_n gd_10_23).sn,
   (gs_get (Cn := gm_R4) (T := gm_T4) (N := 35) rfl gm_in4c (by decide) (gm_f _ gm_w874) gd_10_24).sn,
   (gq_iload_n gd_10_27).sn,
   (gs_iald rfl gd_10_28).sn,
   (gq_iload_n gd_10_29).sn,
   (gs_iast rfl gd_10_30).sn,
   (gq_aload_n gd_10_31).sn,
   (gs_get (Cn := gm_R4) (T := gm_T4) (N := 35) rfl gm_in4c (by decide) (gm_f _ gm_w874) gd_10_32).sn,
   (gq_iload_n gd_10_35).sn,
   (gq_iload_n gd_10_36).sn,
   (gs_iast rfl gd_10_37).sn,
   (gs_ret gd_10_38).sn, trivial⟩
set_option maxRecDepth 100000 in
set_option maxHeartbeats 4000000 in
theorem gm_o11 {G : (Nat → Prop) → State → Heap → Prop} (hGo : gx_Gok G) (l : Launch) : gx_all (gx_Sn l (gm_z G) (gm_cl, gm_tyl, G, Cond.code gm_y11 gm_c11 2 none :: gm_WS, gm_c11, gm_y11, 2, none)) gm_b11 :=
  ⟨(gq_aload_n gd_11_0).sn,
   (gq_bipush gd_11_1 (by decide)).sn,
   (gq_iconst gd_11_3 (by decide)).sn,
   gs_callV (zs := gm_z G) (Cn := gm_R4) (T := gm_T4) (N := 35) rfl hGo (gm_good gm_k9) rfl rfl (gm_f _ gm_w5) (gm_f _ gm_w1003) (gm_f _ gm_w1005) (gm_f _ gm_s26) (by decide +kernel) (by decide) gd_11_4,
   (gq_istore_n gd_11_7).sn,
   (gq_aload_n gd_11_8).sn,
   (gs_get (Cn := gm_R4) (T := gm_T4) (N := 35) rfl gm_in4c (by decide) (gm_f _ gm_w882) gd_11_9).sn,
   (gq_aload_n gd_11_12).sn,
   (gs_get (Cn := gm_R4) (T := gm_T4) (N := 35) rfl gm_in4c (by decide) (gm_f _ gm_w880) gd_11_13).sn,
   (gq_iload_n gd_11_16).sn,
   (gs_iast rfl gd_11_17).sn,
   (gq_aload_n gd_11_18).sn,
   (gq_aload_n gd_11_19).sn,
   (gs_get (Cn := gm_R4) (T := gm_T4) (N := 35) rfl gm_in4c (by decide) (gm_f _ gm_w881) gd_11_20).sn,
   (gq_aload_n gd_11_23).sn,
   (gs_get (Cn := gm_R4) (T := gm_T4) (N := 35) rfl gm_in4c (by decide) (gm_f _ gm_w880) gd_11_24).sn,
   (gs_iald rfl gd_11_27).sn,
   (gq_iload_n gd_11_28).sn,
   gs_callV (zs := gm_z G) (Cn := gm_R4) (T := gm_T4) (N := 35) rfl hGo (gm_good gm_k10) rfl rfl (gm_f _ gm_w5) (gm_f _ gm_w1011) (gm_f _ gm_w1013) (gm_f _ gm_s28) (by decide +kernel) (by decide) gd_11_29,
   (gs_ret gd_11_32).sn, trivial⟩
set_option maxRecDepth 100000 in
set_option maxHeartbeats 4000000 in
theorem gm_o12 {G : (Nat → Prop) → State → Heap → Prop} (hGo : gx_Gok G) (l : Launch) : gx_all (gx_Sn l (gm_z G) (gm_cl, gm_tyl, G, Cond.code gm_y12 gm_c12 2 none :: gm_WS, gm_c12, gm_y12, 2, none)) gm_b12 :=
  ⟨(gq_aload_n gd_12_0).sn,
   (gs_dup gd_12_1).sn,
   (gs_get (Cn := gm_R4) (T := gm_T4) (N := 35) rfl gm_in4c (by decide) (gm_f _ gm_w880) gd_12_2).sn,
   (gq_iconst gd_12_5 (by decide)).sn,
   (gq_iadd gd_12_6).sn,
   (gs_puti (Cn := gm_R4) (T := gm_T4) (N := 35) rfl gm_in4c gm_t4 gm_ty4 gm_nm4 (by decide) (by decide +kernel) (gm_f _ gm_w880) rfl gd_12_7).sn,
   (gq_aload_n gd_12_10).sn,
   (gs_get (Cn := gm_R4) (T := gm_T4) (N := 35) rfl gm_in4c (by decide) (gm_f _ gm_w883) gd_12_11).sn,
   (gq_aload_n gd_12_14).sn,
   (gs_get (Cn := gm_R4) (T := gm_T4) (N := 35) rfl gm_in4c (by decide) (gm_f _ gm_w880) gd_12_15).sn,
   (gq_iload_n gd_12_18).sn,
   (gs_iast rfl gd_12_19).sn,
   (gq_aload_n gd_12_20).sn,
   (gs_get (Cn := gm_R4) (T := gm_T4) (N := 35) rfl gm_in4c (by decide) (gm_f _ gm_w881) gd_12_21).sn,
   (gq_aload_n gd_12_24).sn,
   (gs_get (Cn := gm_R4) (T := gm_T4) (N := 35) rfl gm_in4c (by decide) (gm_f _ gm_w880) gd_12_25).sn,
   (gq_aload_n gd_12_28).sn,
   (gq_bipush gd_12_29 (by decide)).sn,
   (gq_iconst gd_12_31 (by decide)).sn,
   gs_callV (zs := gm_z G) (Cn := gm_R4) (T := gm_T4) (N := 35) rfl hGo (gm_good gm_k9) rfl rfl (gm_f _ gm_w5) (gm_f _ gm_w1003) (gm_f _ gm_w1005) (gm_f _ gm_s26) (by decide +kernel) (by decide) gd_12_32,
   (gs_iast rfl gd_12_35).sn,
   (gq_aload_n gd_12_36).sn,
   gs_callV (zs := gm_z G) (Cn := gm_R4) (T := gm_T4) (N := 35) rfl hGo (gm_good gm_k11) rfl rfl (gm_f _ gm_w5) (gm_f _ gm_w1007) (gm_f _ gm_w1009) (gm_f _ gm_s27) (by decide +kernel) (by decide) gd_12_37,
   (gs_ret gd_12_40).sn, trivial⟩
set_option maxRecDepth 100000 in
set_option maxHeartbeats 4000000 in
theorem gm_o13 {G : (Nat → Prop) → State → Heap → Prop} (hGo : gx_Gok G) (l : Launch) : gx_all (gx_Sn l (gm_z G) (gm_cl, gm_tyl, G, Cond.code gm_y13 gm_c13 4 (some .int) :: gm_WS, gm_c13, gm_y13, 4, (some .int))) gm_b13 :=
  ⟨(gq_aload_n gd_13_0).sn,
   (gq_iconst gd_13_1 (by decide)).sn,
   (gq_iload_n gd_13_2).sn,
   gs_callV (zs := gm_z G) (Cn := gm_R4) (T := gm_T4) (N := 35) rfl hGo (gm_good gm_k9) rfl rfl (gm_f _ gm_w5) (gm_f _ gm_w1003) (gm_f _ gm_w1005) (gm_f _ gm_s26) (by decide +kernel) (by decide) gd_13_3,
   (gq_istore_n gd_13_6).sn,
   (gq_aload_n gd_13_7).sn,
   (gs_get (Cn := gm_R4) (T := gm_T4) (N := 35) rfl gm_in4c (by decide) (gm_f _ gm_w872) gd_13_8).sn,
   (gq_iload_n gd_13_11).sn,
   (gq_iload_n gd_13_12).sn,
   (gs_iast rfl gd_13_13).sn,
   (gq_iload_n gd_13_14).sn,
   (gs_ireti gd_13_15).sn, trivial⟩
set_option maxRecDepth 100000 in
set_option maxHeartbeats 4000000 in
theorem gm_o14 {G : (Nat → Prop) → State → Heap → Prop} (hGo : gx_Gok G) (l : Launch) : gx_all (gx_Sn l (gm_z G) (gm_cl, gm_tyl, G, Cond.code gm_y14 gm_c14 3 (some .int) :: gm_WS, gm_c14, gm_y14, 3, (some .int))) gm_b14 :=
  ⟨(gq_aload_n gd_14_0).sn,
   (gq_aload_n gd_14_1).sn,
   (gs_get (Cn := gm_R4) (T := gm_T4) (N := 35) rfl gm_in4c (by decide) (gm_f _ gm_w878) gd_14_2).sn,
   gs_callV (zs := gm_z G) (Cn := gm_R4) (T := gm_T4) (N := 35) rfl hGo (gm_good gm_k7) rfl rfl (gm_f _ gm_w5) (gm_f _ gm_w995) (gm_f _ gm_w997) (gm_f _ gm_s24) (by decide +kernel) (by decide) gd_14_5,
   (gq_istore_n gd_14_8).sn,
   (gq_iload_n gd_14_9).sn,
   gs_callS (zs := gm_z G) rfl hGo (gm_good gm_k8) rfl (gm_f _ gm_w5) (gm_f _ gm_w1023) (gm_f _ gm_w1024) (by decide +kernel) (by decide) gd_14_10,
   (gq_if_eq gd_14_13 (by decide)).sn,
   (gq_aload_n gd_14_16).sn,
   (gs_dup gd_14_17).sn,
   (gs_get (Cn := gm_R4) (T := gm_T4) (N := 35) rfl gm_in4c (by decide) (gm_f _ gm_w878) gd_14_18).sn,
   (gq_iconst gd_14_21 (by decide)).sn,
   (gq_iadd gd_14_22).sn,
   (gs_puti (Cn := gm_R4) (T := gm_T4) (N := 35) rfl gm_in4c gm_t4 gm_ty4 gm_nm4 (by decide) (by decide +kernel) (gm_f _ gm_w878) rfl gd_14_23).sn,
   (gq_aload_n gd_14_26).sn,
   (gq_iload_n gd_14_27).sn,
   (gq_iload_n gd_14_28).sn,
   gs_callV (zs := gm_z G) (Cn := gm_R4) (T := gm_T4) (N := 35) rfl hGo (gm_good gm_k13) rfl rfl (gm_f _ gm_w5) (gm_f _ gm_w1026) (gm_f _ gm_w1028) (gm_f _ gm_s31) (by decide +kernel) (by decide) gd_14_29,
   (gs_ireti gd_14_32).sn,
   (gq_iload_n gd_14_33).sn,
   (gq_bipush gd_14_34 (by decide)).sn,
   (gq_icmp_ne gd_14_36 (by decide)).sn,
   (gq_aload_n gd_14_39).sn,
   (gs_dup gd_14_40).sn,
   (gs_get (Cn := gm_R4) (T := gm_T4) (N := 35) rfl gm_in4c (by decide) (gm_f _ gm_w878) gd_14_41).sn,
   (gq_iconst gd_14_44 (by decide)).sn,
   (gq_iadd gd_14_45).sn,
   (gs_puti (Cn := gm_R4) (T := gm_T4) (N := 35) rfl gm_in4c gm_t4 gm_ty4 gm_nm4 (by decide) (by decide +kernel) (gm_f _ gm_w878) rfl gd_14_46).sn,
   (gq_aload_n gd_14_49).sn,
   (gq_iconst gd_14_50 (by decide)).sn,
   (gq_bipush gd_14_51 (by decide)).sn,
   gs_callV (zs := gm_z G) (Cn := gm_R4) (T := gm_T4) (N := 35) rfl hGo (gm_good gm_k13) rfl rfl (gm_f _ gm_w5) (gm_f _ gm_w1026) (gm_f _ gm_w1028) (gm_f _ gm_s31) (by decide +kernel) (by decide) gd_14_53,
   (gs_ireti gd_14_56).sn,
   (gq_iload_n gd_14_57).sn,
   (gq_bipush gd_14_58 (by decide)).sn,
   (gq_icmp_lt gd_14_60 (by decide)).sn,
   (gq_iload_n gd_14_63).sn,
   (gq_bipush gd_14_64 (by decide)).sn,
   (gq_icmp_gt gd_14_66 (by decide)).sn,
   (gq_aload_n gd_14_69).sn,
   (gs_dup gd_14_70).sn,
   (gs_get (Cn := gm_R4) (T := gm_T4) (N := 35) rfl gm_in4c (by decide) (gm_f _ gm_w878) gd_14_71).sn,
   (gq_iconst gd_14_74 (by decide)).sn,
   (gq_iadd gd_14_75).sn,
   (gs_puti (Cn := gm_R4) (T := gm_T4) (N := 35) rfl gm_in4c gm_t4 gm_ty4 gm_nm4 (by decide) (by decide +kernel) (gm_f _ gm_w878) rfl gd_14_76).sn,
   (gq_aload_n gd_14_79).sn,
   (gq_iconst gd_14_80 (by decide)).sn,
   (gq_iload_n gd_14_81).sn,
   (gq_bipush gd_14_82 (by decide)).sn,
   (gq_isub gd_14_84).sn,
   gs_callV (zs := gm_z G) (Cn := gm_R4) (T := gm_T4) (N := 35) rfl hGo (gm_good gm_k9) rfl rfl (gm_f _ gm_w5) (gm_f _ gm_w1003) (gm_f _ gm_w1005) (gm_f _ gm_s26) (by decide +kernel) (by decide) gd_14_85,
   (gs_ireti gd_14_88).sn,
   (gq_iload_n gd_14_89).sn,
   (gq_bipush gd_14_90 (by decide)).sn,
   (gq_icmp_ne gd_14_92 (by decide)).sn,
   (gq_aload_n gd_14_95).sn,
   (gq_aload_n gd_14_96).sn,
   (gs_get (Cn := gm_R4) (T := gm_T4) (N := 35) rfl gm_in4c (by decide) (gm_f _ gm_w878) gd_14_97).sn,
   (gq_iconst gd_14_100 (by decide)).sn,
   (gq_iadd gd_14_101).sn,
   gs_callV (zs := gm_z G) (Cn := gm_R4) (T := gm_T4) (N := 35) rfl hGo (gm_good gm_k7) rfl rfl (gm_f _ gm_w5) (gm_f _ gm_w995) (gm_f _ gm_w997) (gm_f _ gm_s24) (by decide +kernel) (by decide) gd_14_102,
   (gq_bipush gd_14_105 (by decide)).sn,
   (gq_icmp_ne gd_14_107 (by decide)).sn,
   (gq_aload_n gd_14_110).sn,
   (gs_get (Cn := gm_R4) (T := gm_T4) (N := 35) rfl gm_in4c (by decide) (gm_f _ gm_w880) gd_14_111).sn,
   (gq_bipush gd_14_114 (by decide)).sn,
   (gq_icmp_ge gd_14_116 (by decide)).sn,
   (gq_aload_n gd_14_119).sn,
   (gq_aload_n gd_14_120).sn,
   (gs_get (Cn := gm_R4) (T := gm_T4) (N := 35) rfl gm_in4c (by decide) (gm_f _ gm_w878) gd_14_121).sn,
   (gq_iconst gd_14_124 (by decide)).sn,
   (gq_iadd gd_14_125).sn,
   (gs_puti (Cn := gm_R4) (T := gm_T4) (N := 35) rfl gm_in4c gm_t4 gm_ty4 gm_nm4 (by decide) (by decide +kernel) (gm_f _ gm_w878) rfl gd_14_126).sn,
   (gq_aload_n gd_14_129).sn,
   (gq_iconst gd_14_130 (by decide)).sn,
   (gq_iconst gd_14_131 (by decide)).sn,
   gs_callV (zs := gm_z G) (Cn := gm_R4) (T := gm_T4) (N := 35) rfl hGo (gm_good gm_k9) rfl rfl (gm_f _ gm_w5) (gm_f _ gm_w1003) (gm_f _ gm_w1005) (gm_f _ gm_s26) (by decide +kernel) (by decide) gd_14_132,
   (gs_ireti gd_14_135).sn,
   (gq_iload_n gd_14_136).sn,
   (gq_bipush gd_14_137 (by decide)).sn,
   (gq_icmp_ne gd_14_139 (by decide)).sn,
   (gq_aload_n gd_14_142).sn,
   (gq_aload_n gd_14_143).sn,
   (gs_get (Cn := gm_R4) (T := gm_T4) (N := 35) rfl gm_in4c (by decide) (gm_f _ gm_w878) gd_14_144).sn,
   (gq_iconst gd_14_147 (by decide)).sn,
   (gq_iadd gd_14_148).sn,
   gs_callV (zs := gm_z G) (Cn := gm_R4) (T := gm_T4) (N := 35) rfl hGo (gm_good gm_k7) rfl rfl (gm_f _ gm_w5) (gm_f _ gm_w995) (gm_f _ gm_w997) (gm_f _ gm_s24) (by decide +kernel) (by decide) gd_14_149,
   gs_callS (zs := gm_z G) rfl hGo (gm_good gm_k8) rfl (gm_f _ gm_w5) (gm_f _ gm_w1023) (gm_f _ gm_w1024) (by decide +kernel) (by decide) gd_14_152,
   (gq_if_eq gd_14_155 (by decide)).sn,
   (gq_aload_n gd_14_158).sn,
   (gq_aload_n gd_14_159).sn,
   (gs_get (Cn := gm_R4) (T := gm_T4) (N := 35) rfl gm_in4c (by decide) (gm_f _ gm_w878) gd_14_160).sn,
   (gq_iconst gd_14_163 (by decide)).sn,
   (gq_iadd gd_14_164).sn,
   gs_callV (zs := gm_z G) (Cn := gm_R4) (T := gm_T4) (N := 35) rfl hGo (gm_good gm_k7) rfl rfl (gm_f _ gm_w5) (gm_f _ gm_w995) (gm_f _ gm_w997) (gm_f _ gm_s24) (by decide +kernel) (by decide) gd_14_165,
   (gq_bipush gd_14_168 (by decide)).sn,
   (gq_icmp_ne gd_14_170 (by decide)).sn,
   (gq_aload_n gd_14_173).sn,
   (gq_aload_n gd_14_174).sn,
   (gs_get (Cn := gm_R4) (T := gm_T4) (N := 35) rfl gm_in4c (by decide) (gm_f _ gm_w878) gd_14_175).sn,
   (gq_iconst gd_14_178 (by decide)).sn,
   (gq_iadd gd_14_179).sn,
   gs_callV (zs := gm_z G) (Cn := gm_R4) (T := gm_T4) (N := 35) rfl hGo (gm_good gm_k7) rfl rfl (gm_f _ gm_w5) (gm_f _ gm_w995) (gm_f _ gm_w997) (gm_f _ gm_s24) (by decide +kernel) (by decide) gd_14_180,
   gs_callS (zs := gm_z G) rfl hGo (gm_good gm_k8) rfl (gm_f _ gm_w5) (gm_f _ gm_w1023) (gm_f _ gm_w1024) (by decide +kernel) (by decide) gd_14_183,
   (gq_if_eq gd_14_186 (by decide)).sn,
   (gq_aload_n gd_14_189).sn,
   (gq_aload_n gd_14_190).sn,
   (gs_get (Cn := gm_R4) (T := gm_T4) (N := 35) rfl gm_in4c (by decide) (gm_f _ gm_w878) gd_14_191).sn,
   (gq_iconst gd_14_194 (by decide)).sn,
   (gq_iadd gd_14_195).sn,
   gs_callV (zs := gm_z G) (Cn := gm_R4) (T := gm_T4) (N := 35) rfl hGo (gm_good gm_k7) rfl rfl (gm_f _ gm_w5) (gm_f _ gm_w995) (gm_f _ gm_w997) (gm_f _ gm_s24) (by decide +kernel) (by decide) gd_14_196,
   (gq_bipush gd_14_199 (by decide)).sn,
   (gq_icmp_ne gd_14_201 (by decide)).sn,
   (gq_aload_n gd_14_204).sn,
   (gq_aload_n gd_14_205).sn,
   (gq_aload_n gd_14_206).sn,
   (gs_get (Cn := gm_R4) (T := gm_T4) (N := 35) rfl gm_in4c (by decide) (gm_f _ gm_w878) gd_14_207).sn,
   (gq_iconst gd_14_210 (by decide)).sn,
   (gq_iadd gd_14_211).sn,
   gs_callV (zs := gm_z G) (Cn := gm_R4) (T := gm_T4) (N := 35) rfl hGo (gm_good gm_k7) rfl rfl (gm_f _ gm_w5) (gm_f _ gm_w995) (gm_f _ gm_w997) (gm_f _ gm_s24) (by decide +kernel) (by decide) gd_14_212,
   (gq_aload_n gd_14_215).sn,
   (gq_aload_n gd_14_216).sn,
   (gs_get (Cn := gm_R4) (T := gm_T4) (N := 35) rfl gm_in4c (by decide) (gm_f _ gm_w878) gd_14_217).sn,
   (gq_iconst gd_14_220 (by decide)).sn,
   (gq_iadd gd_14_221).sn,
   gs_callV (zs := gm_z G) (Cn := gm_R4) (T := gm_T4) (N := 35) rfl hGo (gm_good gm_k7) rfl rfl (gm_f _ gm_w5) (gm_f _ gm_w995) (gm_f _ gm_w997) (gm_f _ gm_s24) (by decide +kernel) (by decide) gd_14_222,
   gs_callV (zs := gm_z G) (Cn := gm_R4) (T := gm_T4) (N := 35) rfl hGo (gm_good gm_k13) rfl rfl (gm_f _ gm_w5) (gm_f _ gm_w1026) (gm_f _ gm_w1028) (gm_f _ gm_s31) (by decide +kernel) (by decide) gd_14_225,
   (gq_istore_n gd_14_228).sn,
   (gq_aload_n gd_14_229).sn,
   (gq_aload_n gd_14_230).sn,
   (gs_get (Cn := gm_R4) (T := gm_T4) (N := 35) rfl gm_in4c (by decide) (gm_f _ gm_w878) gd_14_231).sn,
   (gq_iconst gd_14_234 (by decide)).sn,
   (gq_iadd gd_14_235).sn,
   (gs_puti (Cn := gm_R4) (T := gm_T4) (N := 35) rfl gm_in4c gm_t4 gm_ty4 gm_nm4 (by decide) (by decide +kernel) (gm_f _ gm_w878) rfl gd_14_236).sn,
   (gq_iload_n gd_14_239).sn,
   (gs_ireti gd_14_240).sn,
   (gq_iconst gd_14_241 (by decide)).sn,
   (gs_ireti gd_14_242).sn, trivial⟩
set_option maxRecDepth 100000 in
set_option maxHeartbeats 4000000 in
theorem gm_o15 {G : (Nat → Prop) → State → Heap → Prop} (hGo : gx_Gok G) (l : Launch) : gx_all (gx_Sn l (gm_z G) (gm_cl, gm_tyl, G, Cond.code gm_y15 gm_c15 5 none :: gm_WS, gm_c15, gm_y15, 5, none)) gm_b15 :=
  ⟨(gq_iload_n gd_15_0).sn,
   (gq_istore_n gd_15_1).sn,
   (gq_aload_n gd_15_2).sn,
   (gq_aload_n gd_15_3).sn,
   (gs_get (Cn := gm_R4) (T := gm_T4) (N := 35) rfl gm_in4c (by decide) (gm_f _ gm_w878) gd_15_4).sn,
   gs_callV (zs := gm_z G) (Cn := gm_R4) (T := gm_T4) (N := 35) rfl hGo (gm_good gm_k7) rfl rfl (gm_f _ gm_w5) (gm_f _ gm_w995) (gm_f _ gm_w997) (gm_f _ gm_s24) (by decide +kernel) (by decide) gd_15_7,
   (gq_istore_n gd_15_10).sn,
   (gq_iload_n gd_15_11).sn,
   (gq_bipush gd_15_12 (by decide)).sn,
   (gq_icmp_eq gd_15_14 (by decide)).sn,
   (gq_iload_n gd_15_17).sn,
   (gq_bipush gd_15_18 (by decide)).sn,
   (gq_icmp_eq gd_15_20 (by decide)).sn,
   (gq_iload_n gd_15_23).sn,
   (gq_bipush gd_15_24 (by decide)).sn,
   (gq_icmp_ne gd_15_26 (by decide)).sn,
   (gq_aload_n gd_15_29).sn,
   (gq_iload_n gd_15_30).sn,
   (gq_bipush gd_15_31 (by decide)).sn,
   (gq_icmp_ne gd_15_33 (by decide)).sn,
   (gq_iconst gd_15_36 (by decide)).sn,
   (gq_goto gd_15_37 (by decide)).sn,
   (gq_iload_n gd_15_40).sn,
   (gq_bipush gd_15_41 (by decide)).sn,
   (gq_icmp_ne gd_15_43 (by decide)).sn,
   (gq_iconst gd_15_46 (by decide)).sn,
   (gq_goto gd_15_47 (by decide)).sn,
   (gq_bipush gd_15_50 (by decide)).sn,
   (gq_iload_n gd_15_52).sn,
   gs_callV (zs := gm_z G) (Cn := gm_R4) (T := gm_T4) (N := 35) rfl hGo (gm_good gm_k9) rfl rfl (gm_f _ gm_w5) (gm_f _ gm_w1003) (gm_f _ gm_w1005) (gm_f _ gm_s26) (by decide +kernel) (by decide) gd_15_53,
   (gq_istore_n gd_15_56).sn,
   (gq_aload_n gd_15_57).sn,
   (gs_dup gd_15_58).sn,
   (gs_get (Cn := gm_R4) (T := gm_T4) (N := 35) rfl gm_in4c (by decide) (gm_f _ gm_w878) gd_15_59).sn,
   (gq_iconst gd_15_62 (by decide)).sn,
   (gq_iadd gd_15_63).sn,
   (gs_puti (Cn := gm_R4) (T := gm_T4) (N := 35) rfl gm_in4c gm_t4 gm_ty4 gm_nm4 (by decide) (by decide +kernel) (gm_f _ gm_w878) rfl gd_15_64).sn,
   (gq_aload_n gd_15_67).sn,
   (gs_get (Cn := gm_R4) (T := gm_T4) (N := 35) rfl gm_in4c (by decide) (gm_f _ gm_w885) gd_15_68).sn,
   (gq_aload_n gd_15_71).sn,
   (gs_get (Cn := gm_R4) (T := gm_T4) (N := 35) rfl gm_in4c (by decide) (gm_f _ gm_w880) gd_15_72).sn,
   (gs_iald rfl gd_15_75).sn,
   (gq_iconst gd_15_76 (by decide)).sn,
   (gq_isub gd_15_77).sn,
   (gq_istore gd_15_78).sn,
   (gq_iload gd_15_80).sn,
   (gq_aload_n gd_15_82).sn,
   (gs_get (Cn := gm_R4) (T := gm_T4) (N := 35) rfl gm_in4c (by decide) (gm_f _ gm_w884) gd_15_83).sn,
   (gq_aload_n gd_15_86).sn,
   (gs_get (Cn := gm_R4) (T := gm_T4) (N := 35) rfl gm_in4c (by decide) (gm_f _ gm_w880) gd_15_87).sn,
   (gs_iald rfl gd_15_90).sn,
   (gq_icmp_lt gd_15_91 (by decide)).sn,
   (gq_aload_n gd_15_94).sn,
   (gq_aload_n gd_15_95).sn,
   (gs_get (Cn := gm_R4) (T := gm_T4) (N := 35) rfl gm_in4c (by decide) (gm_f _ gm_w862) gd_15_96).sn,
   (gq_iload gd_15_99).sn,
   (gs_iald rfl gd_15_101).sn,
   (gq_bipush gd_15_102 (by decide)).sn,
   (gq_icmp_ne gd_15_104 (by decide)).sn,
   (gq_bipush gd_15_107 (by decide)).sn,
   (gq_goto gd_15_109 (by decide)).sn,
   (gq_bipush gd_15_112 (by decide)).sn,
   (gq_iload_n gd_15_114).sn,
   gs_callV (zs := gm_z G) (Cn := gm_R4) (T := gm_T4) (N := 35) rfl hGo (gm_good gm_k9) rfl rfl (gm_f _ gm_w5) (gm_f _ gm_w1003) (gm_f _ gm_w1005) (gm_f _ gm_s26) (by decide +kernel) (by decide) gd_15_115,
   (gq_istore_n gd_15_118).sn,
   (gs_inc gd_15_119).sn,
   (gq_goto gd_15_122 (by decide)).sn,
   (gq_aload_n gd_15_125).sn,
   (gq_aload_n gd_15_126).sn,
   (gs_get (Cn := gm_R4) (T := gm_T4) (N := 35) rfl gm_in4c (by decide) (gm_f _ gm_w882) gd_15_127).sn,
   (gq_aload_n gd_15_130).sn,
   (gs_get (Cn := gm_R4) (T := gm_T4) (N := 35) rfl gm_in4c (by decide) (gm_f _ gm_w880) gd_15_131).sn,
   (gs_iald rfl gd_15_134).sn,
   (gq_iload_n gd_15_135).sn,
   gs_callV (zs := gm_z G) (Cn := gm_R4) (T := gm_T4) (N := 35) rfl hGo (gm_good gm_k10) rfl rfl (gm_f _ gm_w5) (gm_f _ gm_w1011) (gm_f _ gm_w1013) (gm_f _ gm_s28) (by decide +kernel) (by decide) gd_15_136,
   (gs_ret gd_15_139).sn, trivial⟩
set_option maxRecDepth 100000 in
set_option maxHeartbeats 4000000 in
theorem gm_o16 {G : (Nat → Prop) → State → Heap → Prop} (hGo : gx_Gok G) (l : Launch) : gx_all (gx_Sn l (gm_z G) (gm_cl, gm_tyl, G, Cond.code gm_y16 gm_c16 2 none :: gm_WS, gm_c16, gm_y16, 2, none)) gm_b16 :=
  ⟨(gq_aload_n gd_16_0).sn,
   (gs_get (Cn := gm_R4) (T := gm_T4) (N := 35) rfl gm_in4c (by decide) (gm_f _ gm_w880) gd_16_1).sn,
   (gq_if_le gd_16_4 (by decide)).sn,
   (gq_aload_n gd_16_7).sn,
   (gq_aload_n gd_16_8).sn,
   (gs_get (Cn := gm_R4) (T := gm_T4) (N := 35) rfl gm_in4c (by decide) (gm_f _ gm_w878) gd_16_9).sn,
   gs_callV (zs := gm_z G) (Cn := gm_R4) (T := gm_T4) (N := 35) rfl hGo (gm_good gm_k7) rfl rfl (gm_f _ gm_w5) (gm_f _ gm_w995) (gm_f _ gm_w997) (gm_f _ gm_s24) (by decide +kernel) (by decide) gd_16_12,
   (gq_aload_n gd_16_15).sn,
   (gs_get (Cn := gm_R4) (T := gm_T4) (N := 35) rfl gm_in4c (by decide) (gm_f _ gm_w883) gd_16_16).sn,
   (gq_aload_n gd_16_19).sn,
   (gs_get (Cn := gm_R4) (T := gm_T4) (N := 35) rfl gm_in4c (by decide) (gm_f _ gm_w880) gd_16_20).sn,
   (gs_iald rfl gd_16_23).sn,
   (gq_bipush gd_16_24 (by decide)).sn,
   (gq_icmp_ne gd_16_26 (by decide)).sn,
   (gq_bipush gd_16_29 (by decide)).sn,
   (gq_goto gd_16_31 (by decide)).sn,
   (gq_bipush gd_16_34 (by decide)).sn,
   (gq_icmp_ne gd_16_36 (by decide)).sn,
   (gq_aload_n gd_16_39).sn,
   (gs_get (Cn := gm_R4) (T := gm_T4) (N := 35) rfl gm_in4c (by decide) (gm_f _ gm_w881) gd_16_40).sn,
   (gq_aload_n gd_16_43).sn,
   (gs_get (Cn := gm_R4) (T := gm_T4) (N := 35) rfl gm_in4c (by decide) (gm_f _ gm_w880) gd_16_44).sn,
   (gs_iald rfl gd_16_47).sn,
   (gq_istore_n gd_16_48).sn,
   (gq_aload_n gd_16_49).sn,
   (gs_get (Cn := gm_R4) (T := gm_T4) (N := 35) rfl gm_in4c (by decide) (gm_f _ gm_w883) gd_16_50).sn,
   (gq_aload_n gd_16_53).sn,
   (gs_get (Cn := gm_R4) (T := gm_T4) (N := 35) rfl gm_in4c (by decide) (gm_f _ gm_w880) gd_16_54).sn,
   (gs_iald rfl gd_16_57).sn,
   (gq_bipush gd_16_58 (by decide)).sn,
   (gq_icmp_ne gd_16_60 (by decide)).sn,
   (gq_aload_n gd_16_63).sn,
   (gq_iconst gd_16_64 (by decide)).sn,
   (gq_iload_n gd_16_65).sn,
   gs_callV (zs := gm_z G) (Cn := gm_R4) (T := gm_T4) (N := 35) rfl hGo (gm_good gm_k9) rfl rfl (gm_f _ gm_w5) (gm_f _ gm_w1003) (gm_f _ gm_w1005) (gm_f _ gm_s26) (by decide +kernel) (by decide) gd_16_66,
   (gq_goto gd_16_69 (by decide)).sn,
   (gq_iload_n gd_16_72).sn,
   (gq_istore_n gd_16_73).sn,
   (gq_aload_n gd_16_74).sn,
   (gs_dup gd_16_75).sn,
   (gs_get (Cn := gm_R4) (T := gm_T4) (N := 35) rfl gm_in4c (by decide) (gm_f _ gm_w878) gd_16_76).sn,
   (gq_iconst gd_16_79 (by decide)).sn,
   (gq_iadd gd_16_80).sn,
   (gs_puti (Cn := gm_R4) (T := gm_T4) (N := 35) rfl gm_in4c gm_t4 gm_ty4 gm_nm4 (by decide) (by decide +kernel) (gm_f _ gm_w878) rfl gd_16_81).sn,
   (gq_aload_n gd_16_84).sn,
   (gs_dup gd_16_85).sn,
   (gs_get (Cn := gm_R4) (T := gm_T4) (N := 35) rfl gm_in4c (by decide) (gm_f _ gm_w880) gd_16_86).sn,
   (gq_iconst gd_16_89 (by decide)).sn,
   (gq_isub gd_16_90).sn,
   (gs_puti (Cn := gm_R4) (T := gm_T4) (N := 35) rfl gm_in4c gm_t4 gm_ty4 gm_nm4 (by decide) (by decide +kernel) (gm_f _ gm_w880) rfl gd_16_91).sn,
   (gq_aload_n gd_16_94).sn,
   (gq_iload_n gd_16_95).sn,
   gs_callV (zs := gm_z G) (Cn := gm_R4) (T := gm_T4) (N := 35) rfl hGo (gm_good gm_k15) rfl rfl (gm_f _ gm_w5) (gm_f _ gm_w1030) (gm_f _ gm_w1032) (gm_f _ gm_s32) (by decide +kernel) (by decide) gd_16_96,
   (gq_goto gd_16_99 (by decide)).sn,
   (gs_ret gd_16_102).sn, trivial⟩
set_option maxRecDepth 100000 in
set_option maxHeartbeats 4000000 in
theorem gm_o17 {G : (Nat → Prop) → State → Heap → Prop} (hGo : gx_Gok G) (l : Launch) : gx_all (gx_Sn l (gm_z G) (gm_cl, gm_tyl, G, Cond.code gm_y17 gm_c17 4 none :: gm_WS, gm_c17, gm_y17, 4, none)) gm_b17 :=
  ⟨(gq_aload_n gd_17_0).sn,
   (gs_get (Cn := gm_R4) (T := gm_T4) (N := 35) rfl gm_in4c (by decide) (gm_f _ gm_w884) gd_17_1).sn,
   (gq_aload_n gd_17_4).sn,
   (gs_get (Cn := gm_R4) (T := gm_T4) (N := 35) rfl gm_in4c (by decide) (gm_f _ gm_w880) gd_17_5).sn,
   (gq_aload_n gd_17_8).sn,
   (gs_get (Cn := gm_R4) (T := gm_T4) (N := 35) rfl gm_in4c (by decide) (gm_f _ gm_w878) gd_17_9).sn,
   (gs_iast rfl gd_17_12).sn,
   (gq_aload_n gd_17_13).sn,
   (gq_aload_n gd_17_14).sn,
   (gs_get (Cn := gm_R4) (T := gm_T4) (N := 35) rfl gm_in4c (by decide) (gm_f _ gm_w878) gd_17_15).sn,
   gs_callV (zs := gm_z G) (Cn := gm_R4) (T := gm_T4) (N := 35) rfl hGo (gm_good gm_k7) rfl rfl (gm_f _ gm_w5) (gm_f _ gm_w995) (gm_f _ gm_w997) (gm_f _ gm_s24) (by decide +kernel) (by decide) gd_17_18,
   (gq_bipush gd_17_21 (by decide)).sn,
   (gq_icmp_eq gd_17_23 (by decide)).sn,
   (gq_aload_n gd_17_26).sn,
   (gq_aload_n gd_17_27).sn,
   (gs_get (Cn := gm_R4) (T := gm_T4) (N := 35) rfl gm_in4c (by decide) (gm_f _ gm_w878) gd_17_28).sn,
   gs_callV (zs := gm_z G) (Cn := gm_R4) (T := gm_T4) (N := 35) rfl hGo (gm_good gm_k7) rfl rfl (gm_f _ gm_w5) (gm_f _ gm_w995) (gm_f _ gm_w997) (gm_f _ gm_s24) (by decide +kernel) (by decide) gd_17_31,
   (gq_bipush gd_17_34 (by decide)).sn,
   (gq_icmp_ne gd_17_36 (by decide)).sn,
   (gq_aload_n gd_17_39).sn,
   (gs_dup gd_17_40).sn,
   (gs_get (Cn := gm_R4) (T := gm_T4) (N := 35) rfl gm_in4c (by decide) (gm_f _ gm_w878) gd_17_41).sn,
   (gq_iconst gd_17_44 (by decide)).sn,
   (gq_iadd gd_17_45).sn,
   (gs_puti (Cn := gm_R4) (T := gm_T4) (N := 35) rfl gm_in4c gm_t4 gm_ty4 gm_nm4 (by decide) (by decide +kernel) (gm_f _ gm_w878) rfl gd_17_46).sn,
   (gq_goto gd_17_49 (by decide)).sn,
   (gq_aload_n gd_17_52).sn,
   (gs_get (Cn := gm_R4) (T := gm_T4) (N := 35) rfl gm_in4c (by decide) (gm_f _ gm_w885) gd_17_53).sn,
   (gq_aload_n gd_17_56).sn,
   (gs_get (Cn := gm_R4) (T := gm_T4) (N := 35) rfl gm_in4c (by decide) (gm_f _ gm_w880) gd_17_57).sn,
   (gq_aload_n gd_17_60).sn,
   (gs_get (Cn := gm_R4) (T := gm_T4) (N := 35) rfl gm_in4c (by decide) (gm_f _ gm_w878) gd_17_61).sn,
   (gs_iast rfl gd_17_64).sn,
   (gq_aload_n gd_17_65).sn,
   (gq_aload_n gd_17_66).sn,
   (gs_get (Cn := gm_R4) (T := gm_T4) (N := 35) rfl gm_in4c (by decide) (gm_f _ gm_w878) gd_17_67).sn,
   gs_callV (zs := gm_z G) (Cn := gm_R4) (T := gm_T4) (N := 35) rfl hGo (gm_good gm_k7) rfl rfl (gm_f _ gm_w5) (gm_f _ gm_w995) (gm_f _ gm_w997) (gm_f _ gm_s24) (by decide +kernel) (by decide) gd_17_70,
   (gq_istore_n gd_17_73).sn,
   (gq_iload_n gd_17_74).sn,
   (gq_bipush gd_17_75 (by decide)).sn,
   (gq_icmp_ne gd_17_77 (by decide)).sn,
   (gq_aload_n gd_17_80).sn,
   (gq_aload_n gd_17_81).sn,
   (gs_get (Cn := gm_R4) (T := gm_T4) (N := 35) rfl gm_in4c (by decide) (gm_f _ gm_w878) gd_17_82).sn,
   (gq_iconst gd_17_85 (by decide)).sn,
   (gq_iadd gd_17_86).sn,
   gs_callV (zs := gm_z G) (Cn := gm_R4) (T := gm_T4) (N := 35) rfl hGo (gm_good gm_k7) rfl rfl (gm_f _ gm_w5) (gm_f _ gm_w995) (gm_f _ gm_w997) (gm_f _ gm_s24) (by decide +kernel) (by decide) gd_17_87,
   (gq_bipush gd_17_90 (by decide)).sn,
   (gq_icmp_ne gd_17_92 (by decide)).sn,
   (gq_iconst gd_17_95 (by decide)).sn,
   (gq_goto gd_17_96 (by decide)).sn,
   (gq_iconst gd_17_99 (by decide)).sn,
   (gq_istore_n gd_17_100).sn,
   (gq_iload_n gd_17_101).sn,
   (gq_bipush gd_17_102 (by decide)).sn,
   (gq_icmp_eq gd_17_104 (by decide)).sn,
   (gq_iload_n gd_17_107).sn,
   (gq_bipush gd_17_108 (by decide)).sn,
   (gq_icmp_ne gd_17_110 (by decide)).sn,
   (gq_iload_n gd_17_113).sn,
   (gq_if_ne gd_17_114 (by decide)).sn,
   (gq_aload_n gd_17_117).sn,
   (gq_aload_n gd_17_118).sn,
   (gs_get (Cn := gm_R4) (T := gm_T4) (N := 35) rfl gm_in4c (by decide) (gm_f _ gm_w880) gd_17_119).sn,
   (gq_bipush gd_17_122 (by decide)).sn,
   (gq_icmp_lt gd_17_124 (by decide)).sn,
   (gq_iconst gd_17_127 (by decide)).sn,
   (gq_goto gd_17_128 (by decide)).sn,
   (gq_iconst gd_17_131 (by decide)).sn,
   (gs_put (Cn := gm_R4) (T := gm_T4) (N := 35) rfl gm_in4c gm_t4 gm_ty4 gm_nm4 (by decide) (by decide +kernel) (gm_f _ gm_w879) rfl gd_17_132).sn,
   (gq_aload_n gd_17_135).sn,
   (gs_dup gd_17_136).sn,
   (gs_get (Cn := gm_R4) (T := gm_T4) (N := 35) rfl gm_in4c (by decide) (gm_f _ gm_w878) gd_17_137).sn,
   (gq_iconst gd_17_140 (by decide)).sn,
   (gq_iadd gd_17_141).sn,
   (gs_puti (Cn := gm_R4) (T := gm_T4) (N := 35) rfl gm_in4c gm_t4 gm_ty4 gm_nm4 (by decide) (by decide +kernel) (gm_f _ gm_w878) rfl gd_17_142).sn,
   (gq_aload_n gd_17_145).sn,
   (gs_get (Cn := gm_R4) (T := gm_T4) (N := 35) rfl gm_in4c (by decide) (gm_f _ gm_w879) gd_17_146).sn,
   (gq_if_ne gd_17_149 (by decide)).sn,
   (gq_aload_n gd_17_152).sn,
   (gq_iload_n gd_17_153).sn,
   gs_callV (zs := gm_z G) (Cn := gm_R4) (T := gm_T4) (N := 35) rfl hGo (gm_good gm_k12) rfl rfl (gm_f _ gm_w5) (gm_f _ gm_w999) (gm_f _ gm_w1001) (gm_f _ gm_s25) (by decide +kernel) (by decide) gd_17_154,
   (gs_ret gd_17_157).sn,
   (gq_aload_n gd_17_158).sn,
   gs_callV (zs := gm_z G) (Cn := gm_R4) (T := gm_T4) (N := 35) rfl hGo (gm_good gm_k14) rfl rfl (gm_f _ gm_w5) (gm_f _ gm_w1019) (gm_f _ gm_w1021) (gm_f _ gm_s30) (by decide +kernel) (by decide) gd_17_159,
   (gq_istore_n gd_17_162).sn,
   (gq_aload_n gd_17_163).sn,
   (gq_iload_n gd_17_164).sn,
   (gq_if_ge gd_17_165 (by decide)).sn,
   (gq_iconst gd_17_168 (by decide)).sn,
   (gq_goto gd_17_169 (by decide)).sn,
   (gq_iconst gd_17_172 (by decide)).sn,
   (gs_put (Cn := gm_R4) (T := gm_T4) (N := 35) rfl gm_in4c gm_t4 gm_ty4 gm_nm4 (by decide) (by decide +kernel) (gm_f _ gm_w879) rfl gd_17_173).sn,
   (gq_aload_n gd_17_176).sn,
   (gs_get (Cn := gm_R4) (T := gm_T4) (N := 35) rfl gm_in4c (by decide) (gm_f _ gm_w879) gd_17_177).sn,
   (gq_if_eq gd_17_180 (by decide)).sn,
   (gs_ret gd_17_183).sn,
   (gq_aload_n gd_17_184).sn,
   (gq_iload_n gd_17_185).sn,
   gs_callV (zs := gm_z G) (Cn := gm_R4) (T := gm_T4) (N := 35) rfl hGo (gm_good gm_k15) rfl rfl (gm_f _ gm_w5) (gm_f _ gm_w1030) (gm_f _ gm_w1032) (gm_f _ gm_s32) (by decide +kernel) (by decide) gd_17_186,
   (gq_aload_n gd_17_189).sn,
   gs_callV (zs := gm_z G) (Cn := gm_R4) (T := gm_T4) (N := 35) rfl hGo (gm_good gm_k16) rfl rfl (gm_f _ gm_w5) (gm_f _ gm_w1034) (gm_f _ gm_w1036) (gm_f _ gm_s33) (by decide +kernel) (by decide) gd_17_190,
   (gq_aload_n gd_17_193).sn,
   (gq_aload_n gd_17_194).sn,
   (gs_get (Cn := gm_R4) (T := gm_T4) (N := 35) rfl gm_in4c (by decide) (gm_f _ gm_w878) gd_17_195).sn,
   gs_callV (zs := gm_z G) (Cn := gm_R4) (T := gm_T4) (N := 35) rfl hGo (gm_good gm_k7) rfl rfl (gm_f _ gm_w5) (gm_f _ gm_w995) (gm_f _ gm_w997) (gm_f _ gm_s24) (by decide +kernel) (by decide) gd_17_198,
   (gq_bipush gd_17_201 (by decide)).sn,
   (gq_icmp_ne gd_17_203 (by decide)).sn,
   (gq_aload_n gd_17_206).sn,
   (gs_dup gd_17_207).sn,
   (gs_get (Cn := gm_R4) (T := gm_T4) (N := 35) rfl gm_in4c (by decide) (gm_f _ gm_w878) gd_17_208).sn,
   (gq_iconst gd_17_211 (by decide)).sn,
   (gq_iadd gd_17_212).sn,
   (gs_puti (Cn := gm_R4) (T := gm_T4) (N := 35) rfl gm_in4c gm_t4 gm_ty4 gm_nm4 (by decide) (by decide +kernel) (gm_f _ gm_w878) rfl gd_17_213).sn,
   (gq_aload_n gd_17_216).sn,
   gs_callV (zs := gm_z G) (Cn := gm_R4) (T := gm_T4) (N := 35) rfl hGo (gm_good gm_k11) rfl rfl (gm_f _ gm_w5) (gm_f _ gm_w1007) (gm_f _ gm_w1009) (gm_f _ gm_s27) (by decide +kernel) (by decide) gd_17_217,
   (gq_aload_n gd_17_220).sn,
   (gq_aload_n gd_17_221).sn,
   (gs_get (Cn := gm_R4) (T := gm_T4) (N := 35) rfl gm_in4c (by decide) (gm_f _ gm_w878) gd_17_222).sn,
   (gq_aload_n gd_17_225).sn,
   (gs_get (Cn := gm_R4) (T := gm_T4) (N := 35) rfl gm_in4c (by decide) (gm_f _ gm_w863) gd_17_226).sn,
   (gq_icmp_lt gd_17_229 (by decide)).sn,
   (gq_iconst gd_17_232 (by decide)).sn,
   (gq_goto gd_17_233 (by decide)).sn,
   (gq_iconst gd_17_236 (by decide)).sn,
   (gs_put (Cn := gm_R4) (T := gm_T4) (N := 35) rfl gm_in4c gm_t4 gm_ty4 gm_nm4 (by decide) (by decide +kernel) (gm_f _ gm_w879) rfl gd_17_237).sn,
   (gs_ret gd_17_240).sn, trivial⟩
set_option maxRecDepth 100000 in
set_option maxHeartbeats 4000000 in
theorem gm_o18 {G : (Nat → Prop) → State → Heap → Prop} (hGo : gx_Gok G) (l : Launch) : gx_all (gx_Sn l (gm_z G) (gm_cl, gm_tyl, G, Cond.code gm_y18 gm_c18 1 (some .boolean) :: gm_WS, gm_c18, gm_y18, 1, (some .boolean))) gm_b18 :=
  ⟨(gq_aload_n gd_18_0).sn,
   (gq_iconst gd_18_1 (by decide)).sn,
   gs_callV (zs := gm_z G) (Cn := gm_R4) (T := gm_T4) (N := 35) rfl hGo (gm_good gm_k7) rfl rfl (gm_f _ gm_w5) (gm_f _ gm_w995) (gm_f _ gm_w997) (gm_f _ gm_s24) (by decide +kernel) (by decide) gd_18_2,
   (gq_bipush gd_18_5 (by decide)).sn,
   (gq_icmp_lt gd_18_7 (by decide)).sn,
   (gq_aload_n gd_18_10).sn,
   (gq_iconst gd_18_11 (by decide)).sn,
   gs_callV (zs := gm_z G) (Cn := gm_R4) (T := gm_T4) (N := 35) rfl hGo (gm_good gm_k7) rfl rfl (gm_f _ gm_w5) (gm_f _ gm_w995) (gm_f _ gm_w997) (gm_f _ gm_s24) (by decide +kernel) (by decide) gd_18_12,
   (gq_bipush gd_18_15 (by decide)).sn,
   (gq_icmp_gt gd_18_17 (by decide)).sn,
   (gq_aload_n gd_18_20).sn,
   (gq_iconst gd_18_21 (by decide)).sn,
   gs_callV (zs := gm_z G) (Cn := gm_R4) (T := gm_T4) (N := 35) rfl hGo (gm_good gm_k7) rfl rfl (gm_f _ gm_w5) (gm_f _ gm_w995) (gm_f _ gm_w997) (gm_f _ gm_s24) (by decide +kernel) (by decide) gd_18_22,
   (gq_bipush gd_18_25 (by decide)).sn,
   (gq_icmp_ne gd_18_27 (by decide)).sn,
   (gq_aload_n gd_18_30).sn,
   (gs_get (Cn := gm_R4) (T := gm_T4) (N := 35) rfl gm_in4c (by decide) (gm_f _ gm_w863) gd_18_31).sn,
   (gq_iconst gd_18_34 (by decide)).sn,
   (gq_icmp_ge gd_18_35 (by decide)).sn,
   (gq_iconst gd_18_38 (by decide)).sn,
   (gs_iret gd_18_39).sn,
   (gq_aload_n gd_18_40).sn,
   (gq_iconst gd_18_41 (by decide)).sn,
   (gs_puti (Cn := gm_R4) (T := gm_T4) (N := 35) rfl gm_in4c gm_t4 gm_ty4 gm_nm4 (by decide) (by decide +kernel) (gm_f _ gm_w878) rfl gd_18_42).sn,
   (gq_aload_n gd_18_45).sn,
   (gq_iconst gd_18_46 (by decide)).sn,
   (gs_put (Cn := gm_R4) (T := gm_T4) (N := 35) rfl gm_in4c gm_t4 gm_ty4 gm_nm4 (by decide) (by decide +kernel) (gm_f _ gm_w879) rfl gd_18_47).sn,
   (gq_aload_n gd_18_50).sn,
   (gs_get (Cn := gm_R4) (T := gm_T4) (N := 35) rfl gm_in4c (by decide) (gm_f _ gm_w869) gd_18_51).sn,
   (gq_iconst gd_18_54 (by decide)).sn,
   (gq_iconst gd_18_55 (by decide)).sn,
   (gs_iast rfl gd_18_56).sn,
   (gq_aload_n gd_18_57).sn,
   (gq_iconst gd_18_58 (by decide)).sn,
   (gs_puti (Cn := gm_R4) (T := gm_T4) (N := 35) rfl gm_in4c gm_t4 gm_ty4 gm_nm4 (by decide) (by decide +kernel) (gm_f _ gm_w880) rfl gd_18_59).sn,
   (gq_aload_n gd_18_62).sn,
   (gq_iconst gd_18_63 (by decide)).sn,
   gs_callV (zs := gm_z G) (Cn := gm_R4) (T := gm_T4) (N := 35) rfl hGo (gm_good gm_k12) rfl rfl (gm_f _ gm_w5) (gm_f _ gm_w999) (gm_f _ gm_w1001) (gm_f _ gm_s25) (by decide +kernel) (by decide) gd_18_64,
   (gq_aload_n gd_18_67).sn,
   (gs_get (Cn := gm_R4) (T := gm_T4) (N := 35) rfl gm_in4c (by decide) (gm_f _ gm_w879) gd_18_68).sn,
   (gq_if_ne gd_18_71 (by decide)).sn,
   (gq_aload_n gd_18_74).sn,
   (gs_get (Cn := gm_R4) (T := gm_T4) (N := 35) rfl gm_in4c (by decide) (gm_f _ gm_w878) gd_18_75).sn,
   (gq_aload_n gd_18_78).sn,
   (gs_get (Cn := gm_R4) (T := gm_T4) (N := 35) rfl gm_in4c (by decide) (gm_f _ gm_w863) gd_18_79).sn,
   (gq_icmp_ge gd_18_82 (by decide)).sn,
   (gq_aload_n gd_18_85).sn,
   gs_callV (zs := gm_z G) (Cn := gm_R4) (T := gm_T4) (N := 35) rfl hGo (gm_good gm_k17) rfl rfl (gm_f _ gm_w5) (gm_f _ gm_w1015) (gm_f _ gm_w1017) (gm_f _ gm_s29) (by decide +kernel) (by decide) gd_18_86,
   (gq_goto gd_18_89 (by decide)).sn,
   (gq_aload_n gd_18_92).sn,
   (gs_get (Cn := gm_R4) (T := gm_T4) (N := 35) rfl gm_in4c (by decide) (gm_f _ gm_w879) gd_18_93).sn,
   (gq_if_ne gd_18_96 (by decide)).sn,
   (gq_aload_n gd_18_99).sn,
   (gs_get (Cn := gm_R4) (T := gm_T4) (N := 35) rfl gm_in4c (by decide) (gm_f _ gm_w880) gd_18_100).sn,
   (gq_if_ne gd_18_103 (by decide)).sn,
   (gq_aload_n gd_18_106).sn,
   (gs_get (Cn := gm_R4) (T := gm_T4) (N := 35) rfl gm_in4c (by decide) (gm_f _ gm_w871) gd_18_107).sn,
   (gq_aload_n gd_18_110).sn,
   (gs_get (Cn := gm_R4) (T := gm_T4) (N := 35) rfl gm_in4c (by decide) (gm_f _ gm_w882) gd_18_111).sn,
   (gq_iconst gd_18_114 (by decide)).sn,
   (gs_iald rfl gd_18_115).sn,
   (gs_iald rfl gd_18_116).sn,
   (gq_if_lt gd_18_117 (by decide)).sn,
   (gq_iconst gd_18_120 (by decide)).sn,
   (gq_goto gd_18_121 (by decide)).sn,
   (gq_iconst gd_18_124 (by decide)).sn,
   (gs_iret gd_18_125).sn, trivial⟩
set_option maxRecDepth 100000 in
set_option maxHeartbeats 4000000 in
theorem gm_o19 {G : (Nat → Prop) → State → Heap → Prop} (hGo : gx_Gok G) (l : Launch) : gx_all (gx_Sn l (gm_z G) (gm_cl, gm_tyl, G, Cond.code gm_y19 gm_c19 5 (some .int) :: gm_WS, gm_c19, gm_y19, 5, (some .int))) gm_b19 :=
  ⟨(gq_aload_n gd_19_0).sn,
   (gq_aload_n gd_19_1).sn,
   gs_callV (zs := gm_z G) (Cn := gm_R4) (T := gm_T4) (N := 35) rfl hGo (gm_good gm_k18) rfl rfl (gm_f _ gm_w5) (gm_f _ gm_w991) (gm_f _ gm_w993) (gm_f _ gm_s23) (by decide +kernel) (by decide) gd_19_2,
   (gq_if_eq gd_19_5 (by decide)).sn,
   (gq_iconst gd_19_8 (by decide)).sn,
   (gq_goto gd_19_9 (by decide)).sn,
   (gq_iconst gd_19_12 (by decide)).sn,
   (gs_puti (Cn := gm_R4) (T := gm_T4) (N := 35) rfl gm_in4c gm_t4 gm_ty4 gm_nm4 (by decide) (by decide +kernel) (gm_f _ gm_w861) rfl gd_19_13).sn,
   (gq_aload_n gd_19_16).sn,
   (gs_get (Cn := gm_R4) (T := gm_T4) (N := 35) rfl gm_in4c (by decide) (gm_f _ gm_w862) gd_19_17).sn,
   (gq_iconst gd_19_20 (by decide)).sn,
   (gs_iald rfl gd_19_21).sn,
   (gq_bipush gd_19_22 (by decide)).sn,
   (gq_isub gd_19_24).sn,
   (gq_istore_n gd_19_25).sn,
   (gq_aload_n gd_19_26).sn,
   (gs_get (Cn := gm_R4) (T := gm_T4) (N := 35) rfl gm_in4c (by decide) (gm_f _ gm_w861) gd_19_27).sn,
   (gq_if_ne gd_19_30 (by decide)).sn,
   (gq_bipush gd_19_33 (by decide)).sn,
   (gq_iload_n gd_19_35).sn,
   (gq_imul gd_19_36).sn,
   (gq_sipush gd_19_37 (by decide)).sn,
   (gq_isub gd_19_40).sn,
   (gq_istore_n gd_19_41).sn,
   (gq_aload_n gd_19_42).sn,
   (gs_get (Cn := gm_R4) (T := gm_T4) (N := 35) rfl gm_in4c (by decide) (gm_f _ gm_w869) gd_19_43).sn,
   (gq_iload_n gd_19_46).sn,
   (gq_aload_n gd_19_47).sn,
   (gs_get (Cn := gm_R4) (T := gm_T4) (N := 35) rfl gm_in4c (by decide) (gm_f _ gm_w869) gd_19_48).sn,
   (gq_iconst gd_19_51 (by decide)).sn,
   (gs_iald rfl gd_19_52).sn,
   (gs_iast rfl gd_19_53).sn,
   (gq_sipush gd_19_54 (by decide)).sn,
   (gq_istore_n gd_19_57).sn,
   (gq_iload_n gd_19_58).sn,
   (gq_sipush gd_19_59 (by decide)).sn,
   (gq_aload_n gd_19_62).sn,
   (gs_get (Cn := gm_R4) (T := gm_T4) (N := 35) rfl gm_in4c (by decide) (gm_f _ gm_w869) gd_19_63).sn,
   (gq_iconst gd_19_66 (by decide)).sn,
   (gs_iald rfl gd_19_67).sn,
   (gq_iadd gd_19_68).sn,
   (gq_icmp_ge gd_19_69 (by decide)).sn,
   (gq_aload_n gd_19_72).sn,
   (gs_get (Cn := gm_R4) (T := gm_T4) (N := 35) rfl gm_in4c (by decide) (gm_f _ gm_w870) gd_19_73).sn,
   (gq_iload_n gd_19_76).sn,
   (gs_iald rfl gd_19_77).sn,
   (gq_if_eq gd_19_78 (by decide)).sn,
   (gq_aload_n gd_19_81).sn,
   (gs_get (Cn := gm_R4) (T := gm_T4) (N := 35) rfl gm_in4c (by decide) (gm_f _ gm_w870) gd_19_82).sn,
   (gq_iload_n gd_19_85).sn,
   (gs_iald rfl gd_19_86).sn,
   (gq_iconst gd_19_87 (by decide)).sn,
   (gq_icmp_eq gd_19_88 (by decide)).sn,
   (gq_aload_n gd_19_91).sn,
   (gs_get (Cn := gm_R4) (T := gm_T4) (N := 35) rfl gm_in4c (by decide) (gm_f _ gm_w870) gd_19_92).sn,
   (gq_iload_n gd_19_95).sn,
   (gs_iald rfl gd_19_96).sn,
   (gq_iconst gd_19_97 (by decide)).sn,
   (gq_icmp_ne gd_19_98 (by decide)).sn,
   (gq_iconst gd_19_101 (by decide)).sn,
   (gq_goto gd_19_102 (by decide)).sn,
   (gq_iconst gd_19_105 (by decide)).sn,
   (gq_istore gd_19_106).sn,
   (gq_aload_n gd_19_108).sn,
   (gs_get (Cn := gm_R4) (T := gm_T4) (N := 35) rfl gm_in4c (by decide) (gm_f _ gm_w870) gd_19_109).sn,
   (gq_iload_n gd_19_112).sn,
   (gq_iload_n gd_19_113).sn,
   (gq_iadd gd_19_114).sn,
   (gq_aload_n gd_19_115).sn,
   (gs_get (Cn := gm_R4) (T := gm_T4) (N := 35) rfl gm_in4c (by decide) (gm_f _ gm_w870) gd_19_116).sn,
   (gq_iload_n gd_19_119).sn,
   (gs_iald rfl gd_19_120).sn,
   (gs_iast rfl gd_19_121).sn,
   (gq_aload_n gd_19_122).sn,
   (gs_get (Cn := gm_R4) (T := gm_T4) (N := 35) rfl gm_in4c (by decide) (gm_f _ gm_w871) gd_19_123).sn,
   (gq_iload_n gd_19_126).sn,
   (gq_iload_n gd_19_127).sn,
   (gq_iadd gd_19_128).sn,
   (gq_iload gd_19_129).sn,
   (gq_if_eq gd_19_131 (by decide)).sn,
   (gq_aload_n gd_19_134).sn,
   (gs_get (Cn := gm_R4) (T := gm_T4) (N := 35) rfl gm_in4c (by decide) (gm_f _ gm_w871) gd_19_135).sn,
   (gq_iload_n gd_19_138).sn,
   (gs_iald rfl gd_19_139).sn,
   (gq_goto gd_19_140 (by decide)).sn,
   (gq_aload_n gd_19_143).sn,
   (gs_get (Cn := gm_R4) (T := gm_T4) (N := 35) rfl gm_in4c (by decide) (gm_f _ gm_w871) gd_19_144).sn,
   (gq_iload_n gd_19_147).sn,
   (gs_iald rfl gd_19_148).sn,
   (gq_iload_n gd_19_149).sn,
   (gq_iadd gd_19_150).sn,
   (gs_iast rfl gd_19_151).sn,
   (gq_aload_n gd_19_152).sn,
   (gs_get (Cn := gm_R4) (T := gm_T4) (N := 35) rfl gm_in4c (by decide) (gm_f _ gm_w872) gd_19_153).sn,
   (gq_iload_n gd_19_156).sn,
   (gq_iload_n gd_19_157).sn,
   (gq_iadd gd_19_158).sn,
   (gq_aload_n gd_19_159).sn,
   (gs_get (Cn := gm_R4) (T := gm_T4) (N := 35) rfl gm_in4c (by decide) (gm_f _ gm_w872) gd_19_160).sn,
   (gq_iload_n gd_19_163).sn,
   (gs_iald rfl gd_19_164).sn,
   (gs_iast rfl gd_19_165).sn,
   (gq_aload_n gd_19_166).sn,
   (gs_get (Cn := gm_R4) (T := gm_T4) (N := 35) rfl gm_in4c (by decide) (gm_f _ gm_w873) gd_19_167).sn,
   (gq_iload_n gd_19_170).sn,
   (gq_iload_n gd_19_171).sn,
   (gq_iadd gd_19_172).sn,
   (gq_aload_n gd_19_173).sn,
   (gs_get (Cn := gm_R4) (T := gm_T4) (N := 35) rfl gm_in4c (by decide) (gm_f _ gm_w873) gd_19_174).sn,
   (gq_iload_n gd_19_177).sn,
   (gs_iald rfl gd_19_178).sn,
   (gq_if_ge gd_19_179 (by decide)).sn,
   (gq_iconst gd_19_182 (by decide)).sn,
   (gq_goto gd_19_183 (by decide)).sn,
   (gq_aload_n gd_19_186).sn,
   (gs_get (Cn := gm_R4) (T := gm_T4) (N := 35) rfl gm_in4c (by decide) (gm_f _ gm_w873) gd_19_187).sn,
   (gq_iload_n gd_19_190).sn,
   (gs_iald rfl gd_19_191).sn,
   (gq_iload_n gd_19_192).sn,
   (gq_iadd gd_19_193).sn,
   (gs_iast rfl gd_19_194).sn,
   (gs_inc gd_19_195).sn,
   (gq_goto gd_19_198 (by decide)).sn,
   (gq_aload_n gd_19_201).sn,
   (gs_get (Cn := gm_R4) (T := gm_T4) (N := 35) rfl gm_in4c (by decide) (gm_f _ gm_w866) gd_19_202).sn,
   (gq_iload_n gd_19_205).sn,
   (gq_iconst gd_19_206 (by decide)).sn,
   (gs_zast rfl gd_19_207).sn,
   (gq_aload_n gd_19_208).sn,
   (gs_get (Cn := gm_R4) (T := gm_T4) (N := 35) rfl gm_in4c (by decide) (gm_f _ gm_w868) gd_19_209).sn,
   (gq_iload_n gd_19_212).sn,
   (gq_aload_n gd_19_213).sn,
   (gs_get (Cn := gm_R4) (T := gm_T4) (N := 35) rfl gm_in4c (by decide) (gm_f _ gm_w863) gd_19_214).sn,
   (gs_iast rfl gd_19_217).sn,
   (gq_iconst gd_19_218 (by decide)).sn,
   (gq_istore_n gd_19_219).sn,
   (gq_iload_n gd_19_220).sn,
   (gq_aload_n gd_19_221).sn,
   (gs_get (Cn := gm_R4) (T := gm_T4) (N := 35) rfl gm_in4c (by decide) (gm_f _ gm_w863) gd_19_222).sn,
   (gq_icmp_ge gd_19_225 (by decide)).sn,
   (gq_aload_n gd_19_228).sn,
   (gs_get (Cn := gm_R4) (T := gm_T4) (N := 35) rfl gm_in4c (by decide) (gm_f _ gm_w867) gd_19_229).sn,
   (gq_bipush gd_19_232 (by decide)).sn,
   (gq_iload_n gd_19_234).sn,
   (gq_imul gd_19_235).sn,
   (gq_iload_n gd_19_236).sn,
   (gq_iadd gd_19_237).sn,
   (gq_aload_n gd_19_238).sn,
   (gs_get (Cn := gm_R4) (T := gm_T4) (N := 35) rfl gm_in4c (by decide) (gm_f _ gm_w862) gd_19_239).sn,
   (gq_iload_n gd_19_242).sn,
   (gs_iald rfl gd_19_243).sn,
   (gs_iast rfl gd_19_244).sn,
   (gs_inc gd_19_245).sn,
   (gq_goto gd_19_248 (by decide)).sn,
   (gq_aload_n gd_19_251).sn,
   (gq_iconst gd_19_252 (by decide)).sn,
   (gs_puti (Cn := gm_R4) (T := gm_T4) (N := 35) rfl gm_in4c gm_t4 gm_ty4 gm_nm4 (by decide) (by decide +kernel) (gm_f _ gm_w863) rfl gd_19_253).sn,
   (gq_aload_n gd_19_256).sn,
   (gs_get (Cn := gm_R4) (T := gm_T4) (N := 35) rfl gm_in4c (by decide) (gm_f _ gm_w861) gd_19_257).sn,
   (gq_if_ne gd_19_260 (by decide)).sn,
   (gq_iload_n gd_19_263).sn,
   (gq_goto gd_19_264 (by decide)).sn,
   (gq_iconst gd_19_267 (by decide)).sn,
   (gs_ireti gd_19_268).sn, trivial⟩
set_option maxRecDepth 100000 in
set_option maxHeartbeats 4000000 in
theorem gm_o20 {G : (Nat → Prop) → State → Heap → Prop} (hGo : gx_Gok G) (l : Launch) : gx_all (gx_Sn l (gm_z G) (gm_cl, gm_tyl, G, Cond.code gm_y20 gm_c20 2 (some .boolean) :: gm_WS, gm_c20, gm_y20, 2, (some .boolean))) gm_b20 :=
  ⟨(gq_aload_n gd_20_0).sn,
   (gq_iload_n gd_20_1).sn,
   gs_callS (zs := gm_z G) rfl hGo (gm_good gm_k2) rfl (gm_f _ gm_w5) (gm_f _ gm_w1042) (gm_f _ gm_w1043) (by decide +kernel) (by decide) gd_20_2,
   (gq_if_eq gd_20_5 (by decide)).sn,
   (gq_iconst gd_20_8 (by decide)).sn,
   (gq_goto gd_20_9 (by decide)).sn,
   (gq_iconst gd_20_12 (by decide)).sn,
   (gs_puti (Cn := gm_R4) (T := gm_T4) (N := 35) rfl gm_in4c gm_t4 gm_ty4 gm_nm4 (by decide) (by decide +kernel) (gm_f _ gm_w861) rfl gd_20_13).sn,
   (gq_aload_n gd_20_16).sn,
   (gs_get (Cn := gm_R4) (T := gm_T4) (N := 35) rfl gm_in4c (by decide) (gm_f _ gm_w861) gd_20_17).sn,
   (gq_if_gt gd_20_20 (by decide)).sn,
   (gq_aload_n gd_20_23).sn,
   (gs_get (Cn := gm_R4) (T := gm_T4) (N := 35) rfl gm_in4c (by decide) (gm_f _ gm_w866) gd_20_24).sn,
   (gq_iload_n gd_20_27).sn,
   (gs_zald rfl gd_20_28).sn,
   (gq_if_ne gd_20_29 (by decide)).sn,
   (gq_iconst gd_20_32 (by decide)).sn,
   (gs_iret gd_20_33).sn,
   (gq_aload_n gd_20_34).sn,
   (gs_get (Cn := gm_R4) (T := gm_T4) (N := 35) rfl gm_in4c (by decide) (gm_f _ gm_w866) gd_20_35).sn,
   (gq_iload_n gd_20_38).sn,
   (gq_iconst gd_20_39 (by decide)).sn,
   (gs_zast rfl gd_20_40).sn,
   (gq_iconst gd_20_41 (by decide)).sn,
   (gs_iret gd_20_42).sn, trivial⟩
set_option maxRecDepth 100000 in
set_option maxHeartbeats 4000000 in
theorem gm_o21 {G : (Nat → Prop) → State → Heap → Prop} (hGo : gx_Gok G) (l : Launch) : gx_all (gx_Sn l (gm_z G) (gm_cl, gm_tyl, G, Cond.code gm_y21 gm_c21 3 (some .char) :: gm_WS, gm_c21, gm_y21, 3, (some .char))) gm_b21 :=
  ⟨(gq_aload_n gd_21_0).sn,
   (gq_iconst gd_21_1 (by decide)).sn,
   (gs_puti (Cn := gm_R4) (T := gm_T4) (N := 35) rfl gm_in4c gm_t4 gm_ty4 gm_nm4 (by decide) (by decide +kernel) (gm_f _ gm_w861) rfl gd_21_2).sn,
   (gq_iload_n gd_21_5).sn,
   gs_callS (zs := gm_z G) rfl hGo (gm_good gm_k2) rfl (gm_f _ gm_w5) (gm_f _ gm_w1042) (gm_f _ gm_w1043) (by decide +kernel) (by decide) gd_21_6,
   (gq_if_eq gd_21_9 (by decide)).sn,
   (gq_aload_n gd_21_12).sn,
   (gs_get (Cn := gm_R4) (T := gm_T4) (N := 35) rfl gm_in4c (by decide) (gm_f _ gm_w866) gd_21_13).sn,
   (gq_iload_n gd_21_16).sn,
   (gs_zald rfl gd_21_17).sn,
   (gq_if_eq gd_21_18 (by decide)).sn,
   (gq_iload_n gd_21_21).sn,
   (gq_if_lt gd_21_22 (by decide)).sn,
   (gq_iload_n gd_21_25).sn,
   (gq_aload_n gd_21_26).sn,
   (gs_get (Cn := gm_R4) (T := gm_T4) (N := 35) rfl gm_in4c (by decide) (gm_f _ gm_w868) gd_21_27).sn,
   (gq_iload_n gd_21_30).sn,
   (gs_iald rfl gd_21_31).sn,
   (gq_icmp_ge gd_21_32 (by decide)).sn,
   (gq_aload_n gd_21_35).sn,
   (gs_get (Cn := gm_R4) (T := gm_T4) (N := 35) rfl gm_in4c (by decide) (gm_f _ gm_w867) gd_21_36).sn,
   (gq_bipush gd_21_39 (by decide)).sn,
   (gq_iload_n gd_21_41).sn,
   (gq_imul gd_21_42).sn,
   (gq_iload_n gd_21_43).sn,
   (gq_iadd gd_21_44).sn,
   (gs_iald rfl gd_21_45).sn,
   (gq_i2c gd_21_46).sn,
   (gq_goto gd_21_47 (by decide)).sn,
   (gq_iconst gd_21_50 (by decide)).sn,
   (gs_iret gd_21_51).sn, trivial⟩
set_option maxRecDepth 100000 in
set_option maxHeartbeats 4000000 in
theorem gm_o22 {G : (Nat → Prop) → State → Heap → Prop} (hGo : gx_Gok G) (l : Launch) : gx_all (gx_Sn l (gm_z G) (gm_cl, gm_tyl, G, Cond.code gm_y22 gm_c22 2 (some .boolean) :: gm_WS, gm_c22, gm_y22, 2, (some .boolean))) gm_b22 :=
  ⟨(gq_iload_n gd_22_0).sn,
   (gq_sipush gd_22_1 (by decide)).sn,
   (gq_icmp_ge gd_22_4 (by decide)).sn,
   (gq_aload_n gd_22_7).sn,
   (gs_get (Cn := gm_R4) (T := gm_T4) (N := 35) rfl gm_in4c (by decide) (gm_f _ gm_w866) gd_22_8).sn,
   (gq_iload_n gd_22_11).sn,
   (gq_bipush gd_22_12 (by decide)).sn,
   (gq_idiv gd_22_14).sn,
   (gs_zald rfl gd_22_15).sn,
   (gq_if_eq gd_22_16 (by decide)).sn,
   (gq_iload_n gd_22_19).sn,
   (gq_bipush gd_22_20 (by decide)).sn,
   (gq_irem gd_22_22).sn,
   (gq_aload_n gd_22_23).sn,
   (gs_get (Cn := gm_R4) (T := gm_T4) (N := 35) rfl gm_in4c (by decide) (gm_f _ gm_w869) gd_22_24).sn,
   (gq_iload_n gd_22_27).sn,
   (gq_bipush gd_22_28 (by decide)).sn,
   (gq_idiv gd_22_30).sn,
   (gs_iald rfl gd_22_31).sn,
   (gq_icmp_ge gd_22_32 (by decide)).sn,
   (gq_iconst gd_22_35 (by decide)).sn,
   (gq_goto gd_22_36 (by decide)).sn,
   (gq_iconst gd_22_39 (by decide)).sn,
   (gs_iret gd_22_40).sn, trivial⟩
set_option maxRecDepth 100000 in
set_option maxHeartbeats 4000000 in
theorem gm_o23 {G : (Nat → Prop) → State → Heap → Prop} (hGo : gx_Gok G) (l : Launch) : gx_all (gx_Sn l (gm_z G) (gm_cl, gm_tyl, G, Cond.code gm_y23 gm_c23 5 (some .boolean) :: gm_WS, gm_c23, gm_y23, 5, (some .boolean))) gm_b23 :=
  ⟨(gq_aload_n gd_23_0).sn,
   (gs_get (Cn := gm_R4) (T := gm_T4) (N := 35) rfl gm_in4c (by decide) (gm_f _ gm_w870) gd_23_1).sn,
   (gq_iload_n gd_23_4).sn,
   (gs_iald rfl gd_23_5).sn,
   (gq_istore_n gd_23_6).sn,
   (gq_iload_n gd_23_7).sn,
   (gq_if_ne gd_23_8 (by decide)).sn,
   (gq_iconst gd_23_11 (by decide)).sn,
   (gs_iret gd_23_12).sn,
   (gq_iload_n gd_23_13).sn,
   (gq_iconst gd_23_14 (by decide)).sn,
   (gq_icmp_ne gd_23_15 (by decide)).sn,
   (gq_aload_n gd_23_18).sn,
   (gs_get (Cn := gm_R4) (T := gm_T4) (N := 35) rfl gm_in4c (by decide) (gm_f _ gm_w866) gd_23_19).sn,
   (gq_aload_n gd_23_22).sn,
   (gs_get (Cn := gm_R4) (T := gm_T4) (N := 35) rfl gm_in4c (by decide) (gm_f _ gm_w871) gd_23_23).sn,
   (gq_iload_n gd_23_26).sn,
   (gs_iald rfl gd_23_27).sn,
   (gs_zald rfl gd_23_28).sn,
   (gq_if_eq gd_23_29 (by decide)).sn,
   (gq_aload_n gd_23_32).sn,
   (gs_get (Cn := gm_R4) (T := gm_T4) (N := 35) rfl gm_in4c (by decide) (gm_f _ gm_w875) gd_23_33).sn,
   (gq_bipush gd_23_36 (by decide)).sn,
   (gq_aload_n gd_23_38).sn,
   (gs_get (Cn := gm_R4) (T := gm_T4) (N := 35) rfl gm_in4c (by decide) (gm_f _ gm_w871) gd_23_39).sn,
   (gq_iload_n gd_23_42).sn,
   (gs_iald rfl gd_23_43).sn,
   (gq_imul gd_23_44).sn,
   (gs_zald rfl gd_23_45).sn,
   (gq_if_eq gd_23_46 (by decide)).sn,
   (gq_iconst gd_23_49 (by decide)).sn,
   (gq_goto gd_23_50 (by decide)).sn,
   (gq_iconst gd_23_53 (by decide)).sn,
   (gs_iret gd_23_54).sn,
   (gq_iload_n gd_23_55).sn,
   (gq_iconst gd_23_56 (by decide)).sn,
   (gq_icmp_eq gd_23_57 (by decide)).sn,
   (gq_iload_n gd_23_60).sn,
   (gq_iconst gd_23_61 (by decide)).sn,
   (gq_icmp_ne gd_23_62 (by decide)).sn,
   (gq_aload_n gd_23_65).sn,
   (gs_get (Cn := gm_R4) (T := gm_T4) (N := 35) rfl gm_in4c (by decide) (gm_f _ gm_w875) gd_23_66).sn,
   (gq_aload_n gd_23_69).sn,
   (gs_get (Cn := gm_R4) (T := gm_T4) (N := 35) rfl gm_in4c (by decide) (gm_f _ gm_w871) gd_23_70).sn,
   (gq_iload_n gd_23_73).sn,
   (gs_iald rfl gd_23_74).sn,
   (gs_zald rfl gd_23_75).sn,
   (gs_iret gd_23_76).sn,
   (gq_iload_n gd_23_77).sn,
   (gq_bipush gd_23_78 (by decide)).sn,
   (gq_icmp_ne gd_23_80 (by decide)).sn,
   (gq_iconst gd_23_83 (by decide)).sn,
   (gq_istore_n gd_23_84).sn,
   (gq_aload_n gd_23_85).sn,
   (gs_get (Cn := gm_R4) (T := gm_T4) (N := 35) rfl gm_in4c (by decide) (gm_f _ gm_w871) gd_23_86).sn,
   (gq_iload_n gd_23_89).sn,
   (gs_iald rfl gd_23_90).sn,
   (gq_istore gd_23_91).sn,
   (gq_iload gd_23_93).sn,
   (gq_if_lt gd_23_95 (by decide)).sn,
   (gq_iload_n gd_23_98).sn,
   (gq_if_eq gd_23_99 (by decide)).sn,
   (gq_aload_n gd_23_102).sn,
   (gs_get (Cn := gm_R4) (T := gm_T4) (N := 35) rfl gm_in4c (by decide) (gm_f _ gm_w875) gd_23_103).sn,
   (gq_iload gd_23_106).sn,
   (gs_zald rfl gd_23_108).sn,
   (gq_if_eq gd_23_109 (by decide)).sn,
   (gq_iconst gd_23_112 (by decide)).sn,
   (gq_goto gd_23_113 (by decide)).sn,
   (gq_iconst gd_23_116 (by decide)).sn,
   (gq_istore_n gd_23_117).sn,
   (gq_aload_n gd_23_118).sn,
   (gs_get (Cn := gm_R4) (T := gm_T4) (N := 35) rfl gm_in4c (by decide) (gm_f _ gm_w873) gd_23_119).sn,
   (gq_iload gd_23_122).sn,
   (gs_iald rfl gd_23_124).sn,
   (gq_istore gd_23_125).sn,
   (gq_goto gd_23_127 (by decide)).sn,
   (gq_iload_n gd_23_130).sn,
   (gs_iret gd_23_131).sn,
   (gq_iload_n gd_23_132).sn,
   (gq_bipush gd_23_133 (by decide)).sn,
   (gq_icmp_eq gd_23_135 (by decide)).sn,
   (gq_iconst gd_23_138 (by decide)).sn,
   (gq_goto gd_23_139 (by decide)).sn,
   (gq_iconst gd_23_142 (by decide)).sn,
   (gq_istore_n gd_23_143).sn,
   (gq_aload_n gd_23_144).sn,
   (gs_get (Cn := gm_R4) (T := gm_T4) (N := 35) rfl gm_in4c (by decide) (gm_f _ gm_w871) gd_23_145).sn,
   (gq_iload_n gd_23_148).sn,
   (gs_iald rfl gd_23_149).sn,
   (gq_istore gd_23_150).sn,
   (gq_iload gd_23_152).sn,
   (gq_if_lt gd_23_154 (by decide)).sn,
   (gq_iload_n gd_23_157).sn,
   (gq_bipush gd_23_158 (by decide)).sn,
   (gq_icmp_ne gd_23_160 (by decide)).sn,
   (gq_iload_n gd_23_163).sn,
   (gq_if_ne gd_23_164 (by decide)).sn,
   (gq_aload_n gd_23_167).sn,
   (gs_get (Cn := gm_R4) (T := gm_T4) (N := 35) rfl gm_in4c (by decide) (gm_f _ gm_w875) gd_23_168).sn,
   (gq_iload gd_23_171).sn,
   (gs_zald rfl gd_23_173).sn,
   (gq_if_eq gd_23_174 (by decide)).sn,
   (gq_iconst gd_23_177 (by decide)).sn,
   (gq_goto gd_23_178 (by decide)).sn,
   (gq_iconst gd_23_181 (by decide)).sn,
   (gq_istore_n gd_23_182).sn,
   (gq_aload_n gd_23_183).sn,
   (gs_get (Cn := gm_R4) (T := gm_T4) (N := 35) rfl gm_in4c (by decide) (gm_f _ gm_w873) gd_23_184).sn,
   (gq_iload gd_23_187).sn,
   (gs_iald rfl gd_23_189).sn,
   (gq_istore gd_23_190).sn,
   (gq_goto gd_23_192 (by decide)).sn,
   (gq_iload_n gd_23_195).sn,
   (gs_iret gd_23_196).sn, trivial⟩
set_option maxRecDepth 100000 in
set_option maxHeartbeats 4000000 in
theorem gm_o24 {G : (Nat → Prop) → State → Heap → Prop} (hGo : gx_Gok G) (l : Launch) : gx_all (gx_Sn l (gm_z G) (gm_cl, gm_tyl, G, Cond.code gm_y24 gm_c24 6 (some .int) :: gm_WS, gm_c24, gm_y24, 6, (some .int))) gm_b24 :=
  ⟨(gq_aload_n gd_24_0).sn,
   (gs_get (Cn := gm_R4) (T := gm_T4) (N := 35) rfl gm_in4c (by decide) (gm_f _ gm_w870) gd_24_1).sn,
   (gq_iload_n gd_24_4).sn,
   (gs_iald rfl gd_24_5).sn,
   (gq_istore_n gd_24_6).sn,
   (gq_iload_n gd_24_7).sn,
   (gq_if_eq gd_24_8 (by decide)).sn,
   (gq_iload_n gd_24_11).sn,
   (gq_iconst gd_24_12 (by decide)).sn,
   (gq_icmp_ne gd_24_13 (by decide)).sn,
   (gq_iconst gd_24_16 (by decide)).sn,
   (gs_ireti gd_24_17).sn,
   (gq_iload_n gd_24_18).sn,
   (gq_iconst gd_24_19 (by decide)).sn,
   (gq_icmp_ne gd_24_20 (by decide)).sn,
   (gq_iconst gd_24_23 (by decide)).sn,
   (gq_aload_n gd_24_24).sn,
   (gs_get (Cn := gm_R4) (T := gm_T4) (N := 35) rfl gm_in4c (by decide) (gm_f _ gm_w871) gd_24_25).sn,
   (gq_iload_n gd_24_28).sn,
   (gs_iald rfl gd_24_29).sn,
   (gq_ishl gd_24_30).sn,
   (gs_ireti gd_24_31).sn,
   (gq_iload_n gd_24_32).sn,
   (gq_bipush gd_24_33 (by decide)).sn,
   (gq_icmp_ge gd_24_35 (by decide)).sn,
   (gq_aload_n gd_24_38).sn,
   (gs_get (Cn := gm_R4) (T := gm_T4) (N := 35) rfl gm_in4c (by decide) (gm_f _ gm_w876) gd_24_39).sn,
   (gq_aload_n gd_24_42).sn,
   (gs_get (Cn := gm_R4) (T := gm_T4) (N := 35) rfl gm_in4c (by decide) (gm_f _ gm_w871) gd_24_43).sn,
   (gq_iload_n gd_24_46).sn,
   (gs_iald rfl gd_24_47).sn,
   (gs_iald rfl gd_24_48).sn,
   (gs_ireti gd_24_49).sn,
   (gq_iconst gd_24_50 (by decide)).sn,
   (gq_istore_n gd_24_51).sn,
   (gq_iconst gd_24_52 (by decide)).sn,
   (gq_istore gd_24_53).sn,
   (gq_aload_n gd_24_55).sn,
   (gs_get (Cn := gm_R4) (T := gm_T4) (N := 35) rfl gm_in4c (by decide) (gm_f _ gm_w871) gd_24_56).sn,
   (gq_iload_n gd_24_59).sn,
   (gs_iald rfl gd_24_60).sn,
   (gq_istore gd_24_61).sn,
   (gq_iload gd_24_63).sn,
   (gq_if_lt gd_24_65 (by decide)).sn,
   (gq_iload gd_24_68).sn,
   (gq_if_eq gd_24_70 (by decide)).sn,
   (gq_iload_n gd_24_73).sn,
   (gq_aload_n gd_24_74).sn,
   (gs_get (Cn := gm_R4) (T := gm_T4) (N := 35) rfl gm_in4c (by decide) (gm_f _ gm_w876) gd_24_75).sn,
   (gq_iload gd_24_78).sn,
   (gs_iald rfl gd_24_80).sn,
   (gq_ior gd_24_81).sn,
   (gq_istore_n gd_24_82).sn,
   (gq_iload_n gd_24_83).sn,
   (gq_bipush gd_24_84 (by decide)).sn,
   (gq_icmp_eq gd_24_86 (by decide)).sn,
   (gq_aload_n gd_24_89).sn,
   (gs_get (Cn := gm_R4) (T := gm_T4) (N := 35) rfl gm_in4c (by decide) (gm_f _ gm_w875) gd_24_90).sn,
   (gq_iload gd_24_93).sn,
   (gs_zald rfl gd_24_95).sn,
   (gq_if_eq gd_24_96 (by decide)).sn,
   (gq_iconst gd_24_99 (by decide)).sn,
   (gq_goto gd_24_100 (by decide)).sn,
   (gq_iconst gd_24_103 (by decide)).sn,
   (gq_istore gd_24_104).sn,
   (gq_aload_n gd_24_106).sn,
   (gs_get (Cn := gm_R4) (T := gm_T4) (N := 35) rfl gm_in4c (by decide) (gm_f _ gm_w873) gd_24_107).sn,
   (gq_iload gd_24_110).sn,
   (gs_iald rfl gd_24_112).sn,
   (gq_istore gd_24_113).sn,
   (gq_goto gd_24_115 (by decide)).sn,
   (gq_iload_n gd_24_118).sn,
   (gs_ireti gd_24_119).sn, trivial⟩
set_option maxRecDepth 100000 in
set_option maxHeartbeats 4000000 in
theorem gm_o25 {G : (Nat → Prop) → State → Heap → Prop} (hGo : gx_Gok G) (l : Launch) : gx_all (gx_Sn l (gm_z G) (gm_cl, gm_tyl, G, Cond.code gm_y25 gm_c25 5 none :: gm_WS, gm_c25, gm_y25, 5, none)) gm_b25 :=
  ⟨(gq_iconst gd_25_0 (by decide)).sn,
   (gq_istore_n gd_25_1).sn,
   (gq_iload_n gd_25_2).sn,
   (gq_sipush gd_25_3 (by decide)).sn,
   (gq_icmp_ge gd_25_6 (by decide)).sn,
   (gq_aload_n gd_25_9).sn,
   (gs_get (Cn := gm_R4) (T := gm_T4) (N := 35) rfl gm_in4c (by decide) (gm_f _ gm_w875) gd_25_10).sn,
   (gq_iload_n gd_25_13).sn,
   (gq_iconst gd_25_14 (by decide)).sn,
   (gs_zast rfl gd_25_15).sn,
   (gq_aload_n gd_25_16).sn,
   (gs_get (Cn := gm_R4) (T := gm_T4) (N := 35) rfl gm_in4c (by decide) (gm_f _ gm_w876) gd_25_17).sn,
   (gq_iload_n gd_25_20).sn,
   (gq_iconst gd_25_21 (by decide)).sn,
   (gs_iast rfl gd_25_22).sn,
   (gs_inc gd_25_23).sn,
   (gq_goto gd_25_26 (by decide)).sn,
   (gq_iconst gd_25_29 (by decide)).sn,
   (gq_istore_n gd_25_30).sn,
   (gq_iload_n gd_25_31).sn,
   (gq_if_eq gd_25_32 (by decide)).sn,
   (gq_iconst gd_25_35 (by decide)).sn,
   (gq_istore_n gd_25_36).sn,
   (gq_sipush gd_25_37 (by decide)).sn,
   (gq_istore_n gd_25_40).sn,
   (gq_iload_n gd_25_41).sn,
   (gq_if_lt gd_25_42 (by decide)).sn,
   (gq_aload_n gd_25_45).sn,
   (gq_iload_n gd_25_46).sn,
   gs_callV (zs := gm_z G) (Cn := gm_R4) (T := gm_T4) (N := 35) rfl hGo (gm_good gm_k22) rfl rfl (gm_f _ gm_w5) (gm_f _ gm_w1061) (gm_f _ gm_w1063) (gm_f _ gm_s36) (by decide +kernel) (by decide) gd_25_47,
   (gq_if_eq gd_25_50 (by decide)).sn,
   (gq_aload_n gd_25_53).sn,
   (gq_iload_n gd_25_54).sn,
   gs_callV (zs := gm_z G) (Cn := gm_R4) (T := gm_T4) (N := 35) rfl hGo (gm_good gm_k23) rfl rfl (gm_f _ gm_w5) (gm_f _ gm_w1065) (gm_f _ gm_w1067) (gm_f _ gm_s37) (by decide +kernel) (by decide) gd_25_55,
   (gq_istore_n gd_25_58).sn,
   (gq_aload_n gd_25_59).sn,
   (gq_iload_n gd_25_60).sn,
   gs_callV (zs := gm_z G) (Cn := gm_R4) (T := gm_T4) (N := 35) rfl hGo (gm_good gm_k24) rfl rfl (gm_f _ gm_w5) (gm_f _ gm_w1069) (gm_f _ gm_w1071) (gm_f _ gm_s38) (by decide +kernel) (by decide) gd_25_61,
   (gq_istore gd_25_64).sn,
   (gq_iload_n gd_25_66).sn,
   (gq_if_ne gd_25_67 (by decide)).sn,
   (gq_iload_n gd_25_70).sn,
   (gq_aload_n gd_25_71).sn,
   (gs_get (Cn := gm_R4) (T := gm_T4) (N := 35) rfl gm_in4c (by decide) (gm_f _ gm_w875) gd_25_72).sn,
   (gq_iload_n gd_25_75).sn,
   (gs_zald rfl gd_25_76).sn,
   (gq_icmp_ne gd_25_77 (by decide)).sn,
   (gq_iload gd_25_80).sn,
   (gq_aload_n gd_25_82).sn,
   (gs_get (Cn := gm_R4) (T := gm_T4) (N := 35) rfl gm_in4c (by decide) (gm_f _ gm_w876) gd_25_83).sn,
   (gq_iload_n gd_25_86).sn,
   (gs_iald rfl gd_25_87).sn,
   (gq_icmp_eq gd_25_88 (by decide)).sn,
   (gq_iconst gd_25_91 (by decide)).sn,
   (gq_goto gd_25_92 (by decide)).sn,
   (gq_iconst gd_25_95 (by decide)).sn,
   (gq_istore_n gd_25_96).sn,
   (gq_aload_n gd_25_97).sn,
   (gs_get (Cn := gm_R4) (T := gm_T4) (N := 35) rfl gm_in4c (by decide) (gm_f _ gm_w875) gd_25_98).sn,
   (gq_iload_n gd_25_101).sn,
   (gq_iload_n gd_25_102).sn,
   (gs_zast rfl gd_25_103).sn,
   (gq_aload_n gd_25_104).sn,
   (gs_get (Cn := gm_R4) (T := gm_T4) (N := 35) rfl gm_in4c (by decide) (gm_f _ gm_w876) gd_25_105).sn,
   (gq_iload_n gd_25_108).sn,
   (gq_iload gd_25_109).sn,
   (gs_iast rfl gd_25_111).sn,
   (gs_inc gd_25_112).sn,
   (gq_goto gd_25_115 (by decide)).sn,
   (gq_goto gd_25_118 (by decide)).sn,
   (gq_iconst gd_25_121 (by decide)).sn,
   (gq_istore_n gd_25_122).sn,
   (gq_iload_n gd_25_123).sn,
   (gq_iconst gd_25_124 (by decide)).sn,
   (gq_icmp_ge gd_25_125 (by decide)).sn,
   (gq_aload_n gd_25_128).sn,
   (gs_get (Cn := gm_R4) (T := gm_T4) (N := 35) rfl gm_in4c (by decide) (gm_f _ gm_w877) gd_25_129).sn,
   (gq_iload_n gd_25_132).sn,
   (gq_iconst gd_25_133 (by decide)).sn,
   (gs_iast rfl gd_25_134).sn,
   (gq_bipush gd_25_135 (by decide)).sn,
   (gq_iload_n gd_25_137).sn,
   (gq_imul gd_25_138).sn,
   (gq_istore_n gd_25_139).sn,
   (gq_iload_n gd_25_140).sn,
   (gq_bipush gd_25_141 (by decide)).sn,
   (gq_iload_n gd_25_143).sn,
   (gq_imul gd_25_144).sn,
   (gq_bipush gd_25_145 (by decide)).sn,
   (gq_iadd gd_25_147).sn,
   (gq_icmp_ge gd_25_148 (by decide)).sn,
   (gq_aload_n gd_25_151).sn,
   (gs_get (Cn := gm_R4) (T := gm_T4) (N := 35) rfl gm_in4c (by decide) (gm_f _ gm_w877) gd_25_152).sn,
   (gq_iload_n gd_25_155).sn,
   (gq_aload_n gd_25_156).sn,
   (gq_iload_n gd_25_157).sn,
   gs_callV (zs := gm_z G) (Cn := gm_R4) (T := gm_T4) (N := 35) rfl hGo (gm_good gm_k22) rfl rfl (gm_f _ gm_w5) (gm_f _ gm_w1061) (gm_f _ gm_w1063) (gm_f _ gm_s36) (by decide +kernel) (by decide) gd_25_158,
   (gq_if_eq gd_25_161 (by decide)).sn,
   (gq_aload_n gd_25_164).sn,
   (gs_get (Cn := gm_R4) (T := gm_T4) (N := 35) rfl gm_in4c (by decide) (gm_f _ gm_w870) gd_25_165).sn,
   (gq_iload_n gd_25_168).sn,
   (gs_iald rfl gd_25_169).sn,
   (gq_iconst gd_25_170 (by decide)).sn,
   (gq_icmp_ne gd_25_171 (by decide)).sn,
   (gq_aload_n gd_25_174).sn,
   (gs_get (Cn := gm_R4) (T := gm_T4) (N := 35) rfl gm_in4c (by decide) (gm_f _ gm_w877) gd_25_175).sn,
   (gq_iload_n gd_25_178).sn,
   (gs_iald rfl gd_25_179).sn,
   (gq_iconst gd_25_180 (by decide)).sn,
   (gq_aload_n gd_25_181).sn,
   (gs_get (Cn := gm_R4) (T := gm_T4) (N := 35) rfl gm_in4c (by decide) (gm_f _ gm_w871) gd_25_182).sn,
   (gq_iload_n gd_25_185).sn,
   (gs_iald rfl gd_25_186).sn,
   (gq_ishl gd_25_187).sn,
   (gq_ior gd_25_188).sn,
   (gq_goto gd_25_189 (by decide)).sn,
   (gq_aload_n gd_25_192).sn,
   (gs_get (Cn := gm_R4) (T := gm_T4) (N := 35) rfl gm_in4c (by decide) (gm_f _ gm_w877) gd_25_193).sn,
   (gq_iload_n gd_25_196).sn,
   (gs_iald rfl gd_25_197).sn,
   (gs_iast rfl gd_25_198).sn,
   (gs_inc gd_25_199).sn,
   (gq_goto gd_25_202 (by decide)).sn,
   (gs_inc gd_25_205).sn,
   (gq_goto gd_25_208 (by decide)).sn,
   (gs_ret gd_25_211).sn, trivial⟩
set_option maxRecDepth 100000 in
set_option maxHeartbeats 4000000 in
theorem gm_o26 {G : (Nat → Prop) → State → Heap → Prop} (hGo : gx_Gok G) (l : Launch) : gx_all (gx_Sn l (gm_z G) (gm_cl, gm_tyl, G, Cond.code gm_y26 gm_c26 6 (some .int) :: gm_WS, gm_c26, gm_y26, 6, (some .int))) gm_b26 :=
  ⟨(gq_iload_n gd_26_0).sn,
   (gq_istore_n gd_26_1).sn,
   (gq_iconst gd_26_2 (by decide)).sn,
   (gq_istore gd_26_3).sn,
   (gq_iload gd_26_5).sn,
   (gq_iconst gd_26_7 (by decide)).sn,
   (gq_icmp_ge gd_26_8 (by decide)).sn,
   (gq_iconst gd_26_11 (by decide)).sn,
   (gq_istore gd_26_12).sn,
   (gq_iload gd_26_14).sn,
   (gq_iconst gd_26_16 (by decide)).sn,
   (gq_icmp_ge gd_26_17 (by decide)).sn,
   (gq_iload_n gd_26_20).sn,
   (gq_iload gd_26_21).sn,
   (gq_ishr gd_26_23).sn,
   (gq_iconst gd_26_24 (by decide)).sn,
   (gq_iand gd_26_25).sn,
   (gq_iconst gd_26_26 (by decide)).sn,
   (gq_icmp_ne gd_26_27 (by decide)).sn,
   (gq_aload_n gd_26_30).sn,
   (gs_get (Cn := gm_R4) (T := gm_T4) (N := 35) rfl gm_in4c (by decide) (gm_f _ gm_w866) gd_26_31).sn,
   (gq_iload gd_26_34).sn,
   (gs_zald rfl gd_26_36).sn,
   (gq_if_eq gd_26_37 (by decide)).sn,
   (gq_iload_n gd_26_40).sn,
   (gq_iload_n gd_26_41).sn,
   (gq_if_ne gd_26_42 (by decide)).sn,
   (gq_aload_n gd_26_45).sn,
   (gs_get (Cn := gm_R4) (T := gm_T4) (N := 35) rfl gm_in4c (by decide) (gm_f _ gm_w877) gd_26_46).sn,
   (gq_iload gd_26_49).sn,
   (gs_iald rfl gd_26_51).sn,
   (gq_goto gd_26_52 (by decide)).sn,
   (gq_aload_n gd_26_55).sn,
   (gs_get (Cn := gm_R4) (T := gm_T4) (N := 35) rfl gm_in4c (by decide) (gm_f _ gm_w876) gd_26_56).sn,
   (gq_bipush gd_26_59 (by decide)).sn,
   (gq_iload gd_26_61).sn,
   (gq_imul gd_26_63).sn,
   (gs_iald rfl gd_26_64).sn,
   (gq_ior gd_26_65).sn,
   (gq_istore_n gd_26_66).sn,
   (gs_inc gd_26_67).sn,
   (gq_goto gd_26_70 (by decide)).sn,
   (gs_inc gd_26_73).sn,
   (gq_goto gd_26_76 (by decide)).sn,
   (gq_iload_n gd_26_79).sn,
   (gs_ireti gd_26_80).sn, trivial⟩
set_option maxRecDepth 100000 in
set_option maxHeartbeats 4000000 in
theorem gm_o27 {G : (Nat → Prop) → State → Heap → Prop} (hGo : gx_Gok G) (l : Launch) : gx_all (gx_Sn l (gm_z G) (gm_cl, gm_tyl, G, Cond.code gm_y27 gm_c27 8 (some .int) :: gm_WS, gm_c27, gm_y27, 8, (some .int))) gm_b27 :=
  ⟨(gq_aload_n gd_27_0).sn,
   gs_callV (zs := gm_z G) (Cn := gm_R4) (T := gm_T4) (N := 35) rfl hGo (gm_good gm_k25) rfl rfl (gm_f _ gm_w5) (gm_f _ gm_w1057) (gm_f _ gm_w1059) (gm_f _ gm_s35) (by decide +kernel) (by decide) gd_27_1,
   (gq_aload_n gd_27_4).sn,
   (gq_iconst gd_27_5 (by decide)).sn,
   (gq_iload_n gd_27_6).sn,
   (gq_ishl gd_27_7).sn,
   (gq_iconst gd_27_8 (by decide)).sn,
   gs_callV (zs := gm_z G) (Cn := gm_R4) (T := gm_T4) (N := 35) rfl hGo (gm_good gm_k26) rfl rfl (gm_f _ gm_w5) (gm_f _ gm_w1073) (gm_f _ gm_w1075) (gm_f _ gm_s39) (by decide +kernel) (by decide) gd_27_9,
   (gq_istore_n gd_27_12).sn,
   (gq_iconst gd_27_13 (by decide)).sn,
   (gq_istore_n gd_27_14).sn,
   (gq_iconst gd_27_15 (by decide)).sn,
   (gq_istore gd_27_16).sn,
   (gq_iconst gd_27_18 (by decide)).sn,
   (gq_istore gd_27_19).sn,
   (gq_iconst gd_27_21 (by decide)).sn,
   (gq_istore gd_27_22).sn,
   (gq_iload gd_27_24).sn,
   (gq_iconst gd_27_26 (by decide)).sn,
   (gq_icmp_ge gd_27_27 (by decide)).sn,
   (gq_iload_n gd_27_30).sn,
   (gq_iload gd_27_31).sn,
   (gq_ishr gd_27_33).sn,
   (gq_iconst gd_27_34 (by decide)).sn,
   (gq_iand gd_27_35).sn,
   (gq_iconst gd_27_36 (by decide)).sn,
   (gq_icmp_ne gd_27_37 (by decide)).sn,
   (gq_iload_n gd_27_40).sn,
   (gq_if_ne gd_27_41 (by decide)).sn,
   (gq_aload_n gd_27_44).sn,
   (gs_get (Cn := gm_R4) (T := gm_T4) (N := 35) rfl gm_in4c (by decide) (gm_f _ gm_w866) gd_27_45).sn,
   (gq_iload gd_27_48).sn,
   (gs_zald rfl gd_27_50).sn,
   (gq_if_ne gd_27_51 (by decide)).sn,
   (gq_iconst gd_27_54 (by decide)).sn,
   (gq_goto gd_27_55 (by decide)).sn,
   (gq_iconst gd_27_58 (by decide)).sn,
   (gq_istore_n gd_27_59).sn,
   (gq_iload gd_27_60).sn,
   (gq_if_ne gd_27_62 (by decide)).sn,
   (gq_aload_n gd_27_65).sn,
   (gs_get (Cn := gm_R4) (T := gm_T4) (N := 35) rfl gm_in4c (by decide) (gm_f _ gm_w866) gd_27_66).sn,
   (gq_iload gd_27_69).sn,
   (gs_zald rfl gd_27_71).sn,
   (gq_if_eq gd_27_72 (by decide)).sn,
   (gq_aload_n gd_27_75).sn,
   (gq_aload_n gd_27_76).sn,
   (gs_get (Cn := gm_R4) (T := gm_T4) (N := 35) rfl gm_in4c (by decide) (gm_f _ gm_w876) gd_27_77).sn,
   (gq_bipush gd_27_80 (by decide)).sn,
   (gq_iload gd_27_82).sn,
   (gq_imul gd_27_84).sn,
   (gs_iald rfl gd_27_85).sn,
   (gq_iconst gd_27_86 (by decide)).sn,
   gs_callV (zs := gm_z G) (Cn := gm_R4) (T := gm_T4) (N := 35) rfl hGo (gm_good gm_k26) rfl rfl (gm_f _ gm_w5) (gm_f _ gm_w1073) (gm_f _ gm_w1075) (gm_f _ gm_s39) (by decide +kernel) (by decide) gd_27_87,
   (gq_iload gd_27_90).sn,
   (gq_ishr gd_27_92).sn,
   (gq_iconst gd_27_93 (by decide)).sn,
   (gq_iand gd_27_94).sn,
   (gq_iconst gd_27_95 (by decide)).sn,
   (gq_icmp_ne gd_27_96 (by decide)).sn,
   (gq_iconst gd_27_99 (by decide)).sn,
   (gq_goto gd_27_100 (by decide)).sn,
   (gq_iconst gd_27_103 (by decide)).sn,
   (gq_istore gd_27_104).sn,
   (gq_bipush gd_27_106 (by decide)).sn,
   (gq_iload gd_27_108).sn,
   (gq_imul gd_27_110).sn,
   (gq_istore gd_27_111).sn,
   (gq_iload gd_27_113).sn,
   (gq_bipush gd_27_115 (by decide)).sn,
   (gq_iload gd_27_117).sn,
   (gq_imul gd_27_119).sn,
   (gq_bipush gd_27_120 (by decide)).sn,
   (gq_iadd gd_27_122).sn,
   (gq_icmp_ge gd_27_123 (by decide)).sn,
   (gq_iload gd_27_126).sn,
   (gq_if_ne gd_27_128 (by decide)).sn,
   (gq_aload_n gd_27_131).sn,
   (gq_iload gd_27_132).sn,
   gs_callV (zs := gm_z G) (Cn := gm_R4) (T := gm_T4) (N := 35) rfl hGo (gm_good gm_k22) rfl rfl (gm_f _ gm_w5) (gm_f _ gm_w1061) (gm_f _ gm_w1063) (gm_f _ gm_s36) (by decide +kernel) (by decide) gd_27_134,
   (gq_if_eq gd_27_137 (by decide)).sn,
   (gq_aload_n gd_27_140).sn,
   (gs_get (Cn := gm_R4) (T := gm_T4) (N := 35) rfl gm_in4c (by decide) (gm_f _ gm_w870) gd_27_141).sn,
   (gq_iload gd_27_144).sn,
   (gs_iald rfl gd_27_146).sn,
   (gq_iconst gd_27_147 (by decide)).sn,
   (gq_icmp_eq gd_27_148 (by decide)).sn,
   (gq_aload_n gd_27_151).sn,
   (gs_get (Cn := gm_R4) (T := gm_T4) (N := 35) rfl gm_in4c (by decide) (gm_f _ gm_w870) gd_27_152).sn,
   (gq_iload gd_27_155).sn,
   (gs_iald rfl gd_27_157).sn,
   (gq_iconst gd_27_158 (by decide)).sn,
   (gq_icmp_ne gd_27_159 (by decide)).sn,
   (gq_aload_n gd_27_162).sn,
   (gs_get (Cn := gm_R4) (T := gm_T4) (N := 35) rfl gm_in4c (by decide) (gm_f _ gm_w875) gd_27_163).sn,
   (gq_aload_n gd_27_166).sn,
   (gs_get (Cn := gm_R4) (T := gm_T4) (N := 35) rfl gm_in4c (by decide) (gm_f _ gm_w871) gd_27_167).sn,
   (gq_iload gd_27_170).sn,
   (gs_iald rfl gd_27_172).sn,
   (gs_zald rfl gd_27_173).sn,
   (gq_if_eq gd_27_174 (by decide)).sn,
   (gq_iconst gd_27_177 (by decide)).sn,
   (gq_goto gd_27_178 (by decide)).sn,
   (gq_iconst gd_27_181 (by decide)).sn,
   (gq_istore gd_27_182).sn,
   (gs_inc gd_27_184).sn,
   (gq_goto gd_27_187 (by decide)).sn,
   (gs_inc gd_27_190).sn,
   (gq_goto gd_27_193 (by decide)).sn,
   (gq_iload_n gd_27_196).sn,
   (gq_if_eq gd_27_197 (by decide)).sn,
   (gq_iconst gd_27_200 (by decide)).sn,
   (gq_goto gd_27_201 (by decide)).sn,
   (gq_iload gd_27_204).sn,
   (gq_if_eq gd_27_206 (by decide)).sn,
   (gq_iconst gd_27_209 (by decide)).sn,
   (gq_goto gd_27_210 (by decide)).sn,
   (gq_iload gd_27_213).sn,
   (gq_if_eq gd_27_215 (by decide)).sn,
   (gq_iconst gd_27_218 (by decide)).sn,
   (gq_goto gd_27_219 (by decide)).sn,
   (gq_iconst gd_27_222 (by decide)).sn,
   (gs_ireti gd_27_223).sn, trivial⟩
set_option maxRecDepth 100000 in
set_option maxHeartbeats 4000000 in
theorem gm_o28 {G : (Nat → Prop) → State → Heap → Prop} (hGo : gx_Gok G) (l : Launch) : gx_all (gx_Sn l (gm_z G) (gm_cl, gm_tyl, G, Cond.code gm_y28 gm_c28 2 (some .int) :: gm_WS, gm_c28, gm_y28, 2, (some .int))) gm_b28 :=
  ⟨(gq_aload_n gd_28_0).sn,
   (gq_iload_n gd_28_1).sn,
   gs_callS (zs := gm_z G) rfl hGo (gm_good gm_k2) rfl (gm_f _ gm_w5) (gm_f _ gm_w1042) (gm_f _ gm_w1043) (by decide +kernel) (by decide) gd_28_2,
   (gq_if_eq gd_28_5 (by decide)).sn,
   (gq_iconst gd_28_8 (by decide)).sn,
   (gq_goto gd_28_9 (by decide)).sn,
   (gq_iconst gd_28_12 (by decide)).sn,
   (gs_puti (Cn := gm_R4) (T := gm_T4) (N := 35) rfl gm_in4c gm_t4 gm_ty4 gm_nm4 (by decide) (by decide +kernel) (gm_f _ gm_w861) rfl gd_28_13).sn,
   (gq_aload_n gd_28_16).sn,
   (gs_get (Cn := gm_R4) (T := gm_T4) (N := 35) rfl gm_in4c (by decide) (gm_f _ gm_w861) gd_28_17).sn,
   (gq_if_le gd_28_20 (by decide)).sn,
   (gq_iconst gd_28_23 (by decide)).sn,
   (gq_goto gd_28_24 (by decide)).sn,
   (gq_aload_n gd_28_27).sn,
   (gq_iload_n gd_28_28).sn,
   gs_callV (zs := gm_z G) (Cn := gm_R4) (T := gm_T4) (N := 35) rfl hGo (gm_good gm_k27) rfl rfl (gm_f _ gm_w5) (gm_f _ gm_w1053) (gm_f _ gm_w1055) (gm_f _ gm_s34) (by decide +kernel) (by decide) gd_28_29,
   (gs_ireti gd_28_32).sn, trivial⟩
set_option maxRecDepth 100000 in
set_option maxHeartbeats 4000000 in
theorem gm_o29 {G : (Nat → Prop) → State → Heap → Prop} (hGo : gx_Gok G) (l : Launch) : gx_all (gx_Sn l (gm_z G) (gm_cl, gm_tyl, G, Cond.code gm_y29 gm_c29 5 (some .int) :: gm_WS, gm_c29, gm_y29, 5, (some .int))) gm_b29 :=
  ⟨(gq_iload_n gd_29_0).sn,
   (gq_istore_n gd_29_1).sn,
   (gq_aload_n gd_29_2).sn,
   (gs_get (Cn := gm_R4) (T := gm_T4) (N := 35) rfl gm_in4c (by decide) (gm_f _ gm_w886) gd_29_3).sn,
   (gq_bipush gd_29_6 (by decide)).sn,
   (gq_iload_n gd_29_8).sn,
   (gq_imul gd_29_9).sn,
   (gq_iload_n gd_29_10).sn,
   (gq_iadd gd_29_11).sn,
   (gs_iald rfl gd_29_12).sn,
   (gq_istore gd_29_13).sn,
   (gq_iload gd_29_15).sn,
   (gq_iload_n gd_29_17).sn,
   (gq_icmp_le gd_29_18 (by decide)).sn,
   (gq_iload gd_29_21).sn,
   (gq_istore_n gd_29_23).sn,
   (gq_aload_n gd_29_24).sn,
   (gs_get (Cn := gm_R4) (T := gm_T4) (N := 35) rfl gm_in4c (by decide) (gm_f _ gm_w886) gd_29_25).sn,
   (gq_bipush gd_29_28 (by decide)).sn,
   (gq_iload_n gd_29_30).sn,
   (gq_imul gd_29_31).sn,
   (gq_iload_n gd_29_32).sn,
   (gq_iadd gd_29_33).sn,
   (gs_iald rfl gd_29_34).sn,
   (gq_istore gd_29_35).sn,
   (gq_goto gd_29_37 (by decide)).sn,
   (gq_iload gd_29_40).sn,
   (gq_bipush gd_29_42 (by decide)).sn,
   (gq_icmp_ne gd_29_44 (by decide)).sn,
   (gq_bipush gd_29_47 (by decide)).sn,
   (gq_goto gd_29_49 (by decide)).sn,
   (gq_iload_n gd_29_52).sn,
   (gs_ireti gd_29_53).sn, trivial⟩
set_option maxRecDepth 100000 in
set_option maxHeartbeats 4000000 in
theorem gm_o30 {G : (Nat → Prop) → State → Heap → Prop} (hGo : gx_Gok G) (l : Launch) : gx_all (gx_Sn l (gm_z G) (gm_cl, gm_tyl, G, Cond.code gm_y30 gm_c30 5 (some .int) :: gm_WS, gm_c30, gm_y30, 5, (some .int))) gm_b30 :=
  ⟨(gq_iload_n gd_30_0).sn,
   (gq_istore_n gd_30_1).sn,
   (gq_aload_n gd_30_2).sn,
   (gs_get (Cn := gm_R4) (T := gm_T4) (N := 35) rfl gm_in4c (by decide) (gm_f _ gm_w871) gd_30_3).sn,
   (gq_iload_n gd_30_6).sn,
   (gs_iald rfl gd_30_7).sn,
   (gq_istore gd_30_8).sn,
   (gq_iload gd_30_10).sn,
   (gq_if_lt gd_30_12 (by decide)).sn,
   (gq_aload_n gd_30_15).sn,
   (gs_get (Cn := gm_R4) (T := gm_T4) (N := 35) rfl gm_in4c (by decide) (gm_f _ gm_w886) gd_30_16).sn,
   (gq_bipush gd_30_19 (by decide)).sn,
   (gq_iload gd_30_21).sn,
   (gq_imul gd_30_23).sn,
   (gq_iload_n gd_30_24).sn,
   (gq_iadd gd_30_25).sn,
   (gs_iald rfl gd_30_26).sn,
   (gq_istore_n gd_30_27).sn,
   (gq_iload_n gd_30_28).sn,
   (gq_if_ge gd_30_29 (by decide)).sn,
   (gq_iload_n gd_30_32).sn,
   (gs_ireti gd_30_33).sn,
   (gq_aload_n gd_30_34).sn,
   (gs_get (Cn := gm_R4) (T := gm_T4) (N := 35) rfl gm_in4c (by decide) (gm_f _ gm_w873) gd_30_35).sn,
   (gq_iload gd_30_38).sn,
   (gs_iald rfl gd_30_40).sn,
   (gq_istore gd_30_41).sn,
   (gq_goto gd_30_43 (by decide)).sn,
   (gq_iload_n gd_30_46).sn,
   (gs_ireti gd_30_47).sn, trivial⟩
set_option maxRecDepth 100000 in
set_option maxHeartbeats 4000000 in
theorem gm_o31 {G : (Nat → Prop) → State → Heap → Prop} (hGo : gx_Gok G) (l : Launch) : gx_all (gx_Sn l (gm_z G) (gm_cl, gm_tyl, G, Cond.code gm_y31 gm_c31 5 (some .int) :: gm_WS, gm_c31, gm_y31, 5, (some .int))) gm_b31 :=
  ⟨(gq_aload_n gd_31_0).sn,
   (gs_get (Cn := gm_R4) (T := gm_T4) (N := 35) rfl gm_in4c (by decide) (gm_f _ gm_w871) gd_31_1).sn,
   (gq_iload_n gd_31_4).sn,
   (gs_iald rfl gd_31_5).sn,
   (gq_istore_n gd_31_6).sn,
   (gq_iload_n gd_31_7).sn,
   (gq_if_lt gd_31_8 (by decide)).sn,
   (gq_aload_n gd_31_11).sn,
   (gs_get (Cn := gm_R4) (T := gm_T4) (N := 35) rfl gm_in4c (by decide) (gm_f _ gm_w886) gd_31_12).sn,
   (gq_bipush gd_31_15 (by decide)).sn,
   (gq_iload_n gd_31_17).sn,
   (gq_imul gd_31_18).sn,
   (gq_iload_n gd_31_19).sn,
   (gq_iadd gd_31_20).sn,
   (gs_iald rfl gd_31_21).sn,
   (gq_istore gd_31_22).sn,
   (gq_iload gd_31_24).sn,
   (gq_iconst gd_31_26 (by decide)).sn,
   (gq_icmp_eq gd_31_27 (by decide)).sn,
   (gq_iload gd_31_30).sn,
   (gs_ireti gd_31_32).sn,
   (gq_aload_n gd_31_33).sn,
   (gs_get (Cn := gm_R4) (T := gm_T4) (N := 35) rfl gm_in4c (by decide) (gm_f _ gm_w873) gd_31_34).sn,
   (gq_iload_n gd_31_37).sn,
   (gs_iald rfl gd_31_38).sn,
   (gq_istore_n gd_31_39).sn,
   (gq_goto gd_31_40 (by decide)).sn,
   (gq_iconst gd_31_43 (by decide)).sn,
   (gs_ireti gd_31_44).sn, trivial⟩
set_option maxRecDepth 100000 in
set_option maxHeartbeats 4000000 in
theorem gm_o32 {G : (Nat → Prop) → State → Heap → Prop} (hGo : gx_Gok G) (l : Launch) : gx_all (gx_Sn l (gm_z G) (gm_cl, gm_tyl, G, Cond.code gm_y32 gm_c32 5 (some .int) :: gm_WS, gm_c32, gm_y32, 5, (some .int))) gm_b32 :=
  ⟨(gq_aload_n gd_32_0).sn,
   (gs_get (Cn := gm_R4) (T := gm_T4) (N := 35) rfl gm_in4c (by decide) (gm_f _ gm_w870) gd_32_1).sn,
   (gq_iload_n gd_32_4).sn,
   (gs_iald rfl gd_32_5).sn,
   (gq_istore_n gd_32_6).sn,
   (gq_iload_n gd_32_7).sn,
   (gq_if_ne gd_32_8 (by decide)).sn,
   (gq_iload_n gd_32_11).sn,
   (gq_aload_n gd_32_12).sn,
   (gs_get (Cn := gm_R4) (T := gm_T4) (N := 35) rfl gm_in4c (by decide) (gm_f _ gm_w865) gd_32_13).sn,
   (gq_icmp_ge gd_32_16 (by decide)).sn,
   (gq_aload_n gd_32_19).sn,
   (gs_get (Cn := gm_R4) (T := gm_T4) (N := 35) rfl gm_in4c (by decide) (gm_f _ gm_w864) gd_32_20).sn,
   (gq_iload_n gd_32_23).sn,
   (gs_iald rfl gd_32_24).sn,
   (gq_aload_n gd_32_25).sn,
   (gs_get (Cn := gm_R4) (T := gm_T4) (N := 35) rfl gm_in4c (by decide) (gm_f _ gm_w871) gd_32_26).sn,
   (gq_iload_n gd_32_29).sn,
   (gs_iald rfl gd_32_30).sn,
   (gq_icmp_lt gd_32_31 (by decide)).sn,
   (gq_aload_n gd_32_34).sn,
   (gs_get (Cn := gm_R4) (T := gm_T4) (N := 35) rfl gm_in4c (by decide) (gm_f _ gm_w864) gd_32_35).sn,
   (gq_iload_n gd_32_38).sn,
   (gs_iald rfl gd_32_39).sn,
   (gq_aload_n gd_32_40).sn,
   (gs_get (Cn := gm_R4) (T := gm_T4) (N := 35) rfl gm_in4c (by decide) (gm_f _ gm_w872) gd_32_41).sn,
   (gq_iload_n gd_32_44).sn,
   (gs_iald rfl gd_32_45).sn,
   (gq_icmp_gt gd_32_46 (by decide)).sn,
   (gq_iload_n gd_32_49).sn,
   (gq_iconst gd_32_50 (by decide)).sn,
   (gq_iadd gd_32_51).sn,
   (gq_goto gd_32_52 (by decide)).sn,
   (gq_iconst gd_32_55 (by decide)).sn,
   (gs_ireti gd_32_56).sn,
   (gq_iload_n gd_32_57).sn,
   (gq_iconst gd_32_58 (by decide)).sn,
   (gq_icmp_ne gd_32_59 (by decide)).sn,
   (gq_iload_n gd_32_62).sn,
   (gs_ireti gd_32_63).sn,
   (gq_iload_n gd_32_64).sn,
   (gq_iconst gd_32_65 (by decide)).sn,
   (gq_icmp_ne gd_32_66 (by decide)).sn,
   (gq_aload_n gd_32_69).sn,
   (gs_get (Cn := gm_R4) (T := gm_T4) (N := 35) rfl gm_in4c (by decide) (gm_f _ gm_w866) gd_32_70).sn,
   (gq_aload_n gd_32_73).sn,
   (gs_get (Cn := gm_R4) (T := gm_T4) (N := 35) rfl gm_in4c (by decide) (gm_f _ gm_w871) gd_32_74).sn,
   (gq_iload_n gd_32_77).sn,
   (gs_iald rfl gd_32_78).sn,
   (gs_zald rfl gd_32_79).sn,
   (gq_if_eq gd_32_80 (by decide)).sn,
   (gq_aload_n gd_32_83).sn,
   (gs_get (Cn := gm_R4) (T := gm_T4) (N := 35) rfl gm_in4c (by decide) (gm_f _ gm_w886) gd_32_84).sn,
   (gq_sipush gd_32_87 (by decide)).sn,
   (gq_aload_n gd_32_90).sn,
   (gs_get (Cn := gm_R4) (T := gm_T4) (N := 35) rfl gm_in4c (by decide) (gm_f _ gm_w871) gd_32_91).sn,
   (gq_iload_n gd_32_94).sn,
   (gs_iald rfl gd_32_95).sn,
   (gq_imul gd_32_96).sn,
   (gq_iload_n gd_32_97).sn,
   (gq_iadd gd_32_98).sn,
   (gs_iald rfl gd_32_99).sn,
   (gq_goto gd_32_100 (by decide)).sn,
   (gq_bipush gd_32_103 (by decide)).sn,
   (gs_ireti gd_32_105).sn,
   (gq_iload_n gd_32_106).sn,
   (gq_bipush gd_32_107 (by decide)).sn,
   (gq_icmp_ne gd_32_109 (by decide)).sn,
   (gq_aload_n gd_32_112).sn,
   (gq_iload_n gd_32_113).sn,
   (gq_iload_n gd_32_114).sn,
   gs_callV (zs := gm_z G) (Cn := gm_R4) (T := gm_T4) (N := 35) rfl hGo (gm_good gm_k30) rfl rfl (gm_f _ gm_w5) (gm_f _ gm_w1089) (gm_f _ gm_w1091) (gm_f _ gm_s42) (by decide +kernel) (by decide) gd_32_115,
   (gs_ireti gd_32_118).sn,
   (gq_iload_n gd_32_119).sn,
   (gq_bipush gd_32_120 (by decide)).sn,
   (gq_icmp_ne gd_32_122 (by decide)).sn,
   (gq_aload_n gd_32_125).sn,
   (gq_iload_n gd_32_126).sn,
   (gq_iload_n gd_32_127).sn,
   gs_callV (zs := gm_z G) (Cn := gm_R4) (T := gm_T4) (N := 35) rfl hGo (gm_good gm_k31) rfl rfl (gm_f _ gm_w5) (gm_f _ gm_w1093) (gm_f _ gm_w1095) (gm_f _ gm_s43) (by decide +kernel) (by decide) gd_32_128,
   (gs_ireti gd_32_131).sn,
   (gq_iload_n gd_32_132).sn,
   (gq_iconst gd_32_133 (by decide)).sn,
   (gq_icmp_ne gd_32_134 (by decide)).sn,
   (gq_aload_n gd_32_137).sn,
   (gq_aload_n gd_32_138).sn,
   (gs_get (Cn := gm_R4) (T := gm_T4) (N := 35) rfl gm_in4c (by decide) (gm_f _ gm_w871) gd_32_139).sn,
   (gq_iload_n gd_32_142).sn,
   (gs_iald rfl gd_32_143).sn,
   (gq_iload_n gd_32_144).sn,
   gs_callV (zs := gm_z G) (Cn := gm_R4) (T := gm_T4) (N := 35) rfl hGo (gm_good gm_k29) rfl rfl (gm_f _ gm_w5) (gm_f _ gm_w1097) (gm_f _ gm_w1099) (gm_f _ gm_s44) (by decide +kernel) (by decide) gd_32_145,
   (gs_ireti gd_32_148).sn,
   (gq_aload_n gd_32_149).sn,
   (gs_get (Cn := gm_R4) (T := gm_T4) (N := 35) rfl gm_in4c (by decide) (gm_f _ gm_w886) gd_32_150).sn,
   (gq_bipush gd_32_153 (by decide)).sn,
   (gq_aload_n gd_32_155).sn,
   (gs_get (Cn := gm_R4) (T := gm_T4) (N := 35) rfl gm_in4c (by decide) (gm_f _ gm_w871) gd_32_156).sn,
   (gq_iload_n gd_32_159).sn,
   (gs_iald rfl gd_32_160).sn,
   (gq_imul gd_32_161).sn,
   (gq_iload_n gd_32_162).sn,
   (gq_iadd gd_32_163).sn,
   (gs_iald rfl gd_32_164).sn,
   (gq_istore gd_32_165).sn,
   (gq_iload gd_32_167).sn,
   (gq_bipush gd_32_169 (by decide)).sn,
   (gq_icmp_eq gd_32_171 (by decide)).sn,
   (gq_iload_n gd_32_174).sn,
   (gq_iconst gd_32_175 (by decide)).sn,
   (gq_icmp_ne gd_32_176 (by decide)).sn,
   (gq_iload gd_32_179).sn,
   (gs_ireti gd_32_181).sn,
   (gq_iload_n gd_32_182).sn,
   (gq_iconst gd_32_183 (by decide)).sn,
   (gq_icmp_ne gd_32_184 (by decide)).sn,
   (gq_iload gd_32_187).sn,
   (gq_if_ge gd_32_189 (by decide)).sn,
   (gq_iconst gd_32_192 (by decide)).sn,
   (gq_goto gd_32_193 (by decide)).sn,
   (gq_aload_n gd_32_196).sn,
   (gq_aload_n gd_32_197).sn,
   (gs_get (Cn := gm_R4) (T := gm_T4) (N := 35) rfl gm_in4c (by decide) (gm_f _ gm_w871) gd_32_198).sn,
   (gq_iload_n gd_32_201).sn,
   (gs_iald rfl gd_32_202).sn,
   (gq_iload gd_32_203).sn,
   gs_callV (zs := gm_z G) (Cn := gm_R4) (T := gm_T4) (N := 35) rfl hGo (gm_good gm_k29) rfl rfl (gm_f _ gm_w5) (gm_f _ gm_w1097) (gm_f _ gm_w1099) (gm_f _ gm_s44) (by decide +kernel) (by decide) gd_32_205,
   (gs_ireti gd_32_208).sn,
   (gq_iload_n gd_32_209).sn,
   (gq_bipush gd_32_210 (by decide)).sn,
   (gq_icmp_ne gd_32_212 (by decide)).sn,
   (gq_iload gd_32_215).sn,
   (gq_if_ge gd_32_217 (by decide)).sn,
   (gq_iload_n gd_32_220).sn,
   (gq_goto gd_32_221 (by decide)).sn,
   (gq_iload gd_32_224).sn,
   (gs_ireti gd_32_226).sn,
   (gq_iload gd_32_227).sn,
   (gq_if_lt gd_32_229 (by decide)).sn,
   (gq_iconst gd_32_232 (by decide)).sn,
   (gq_goto gd_32_233 (by decide)).sn,
   (gq_iconst gd_32_236 (by decide)).sn,
   (gq_iload_n gd_32_237).sn,
   (gq_bipush gd_32_238 (by decide)).sn,
   (gq_icmp_ne gd_32_240 (by decide)).sn,
   (gq_iconst gd_32_243 (by decide)).sn,
   (gq_goto gd_32_244 (by decide)).sn,
   (gq_iconst gd_32_247 (by decide)).sn,
   (gq_icmp_ne gd_32_248 (by decide)).sn,
   (gq_iload_n gd_32_251).sn,
   (gq_goto gd_32_252 (by decide)).sn,
   (gq_iconst gd_32_255 (by decide)).sn,
   (gs_ireti gd_32_256).sn, trivial⟩
set_option maxRecDepth 100000 in
set_option maxHeartbeats 4000000 in
theorem gm_o33 {G : (Nat → Prop) → State → Heap → Prop} (hGo : gx_Gok G) (l : Launch) : gx_all (gx_Sn l (gm_z G) (gm_cl, gm_tyl, G, Cond.code gm_y33 gm_c33 4 none :: gm_WS, gm_c33, gm_y33, 4, none)) gm_b33 :=
  ⟨(gq_iconst gd_33_0 (by decide)).sn,
   (gq_istore_n gd_33_1).sn,
   (gq_iload_n gd_33_2).sn,
   (gq_sipush gd_33_3 (by decide)).sn,
   (gq_icmp_ge gd_33_6 (by decide)).sn,
   (gq_aload_n gd_33_9).sn,
   (gs_get (Cn := gm_R4) (T := gm_T4) (N := 35) rfl gm_in4c (by decide) (gm_f _ gm_w886) gd_33_10).sn,
   (gq_iload_n gd_33_13).sn,
   (gq_bipush gd_33_14 (by decide)).sn,
   (gs_iast rfl gd_33_16).sn,
   (gs_inc gd_33_17).sn,
   (gq_goto gd_33_20 (by decide)).sn,
   (gq_iconst gd_33_23 (by decide)).sn,
   (gq_istore_n gd_33_24).sn,
   (gq_iload_n gd_33_25).sn,
   (gq_if_eq gd_33_26 (by decide)).sn,
   (gq_iconst gd_33_29 (by decide)).sn,
   (gq_istore_n gd_33_30).sn,
   (gq_aload_n gd_33_31).sn,
   (gs_get (Cn := gm_R4) (T := gm_T4) (N := 35) rfl gm_in4c (by decide) (gm_f _ gm_w865) gd_33_32).sn,
   (gq_istore_n gd_33_35).sn,
   (gq_iload_n gd_33_36).sn,
   (gq_if_lt gd_33_37 (by decide)).sn,
   (gq_sipush gd_33_40 (by decide)).sn,
   (gq_istore_n gd_33_43).sn,
   (gq_iload_n gd_33_44).sn,
   (gq_if_lt gd_33_45 (by decide)).sn,
   (gq_aload_n gd_33_48).sn,
   (gq_iload_n gd_33_49).sn,
   gs_callV (zs := gm_z G) (Cn := gm_R4) (T := gm_T4) (N := 35) rfl hGo (gm_good gm_k22) rfl rfl (gm_f _ gm_w5) (gm_f _ gm_w1061) (gm_f _ gm_w1063) (gm_f _ gm_s36) (by decide +kernel) (by decide) gd_33_50,
   (gq_if_eq gd_33_53 (by decide)).sn,
   (gq_aload_n gd_33_56).sn,
   (gs_get (Cn := gm_R4) (T := gm_T4) (N := 35) rfl gm_in4c (by decide) (gm_f _ gm_w886) gd_33_57).sn,
   (gq_bipush gd_33_60 (by decide)).sn,
   (gq_iload_n gd_33_62).sn,
   (gq_imul gd_33_63).sn,
   (gq_iload_n gd_33_64).sn,
   (gq_iadd gd_33_65).sn,
   (gs_iald rfl gd_33_66).sn,
   (gq_bipush gd_33_67 (by decide)).sn,
   (gq_icmp_ne gd_33_69 (by decide)).sn,
   (gq_aload_n gd_33_72).sn,
   (gs_get (Cn := gm_R4) (T := gm_T4) (N := 35) rfl gm_in4c (by decide) (gm_f _ gm_w886) gd_33_73).sn,
   (gq_bipush gd_33_76 (by decide)).sn,
   (gq_iload_n gd_33_78).sn,
   (gq_imul gd_33_79).sn,
   (gq_iload_n gd_33_80).sn,
   (gq_iadd gd_33_81).sn,
   (gq_aload_n gd_33_82).sn,
   (gq_iload_n gd_33_83).sn,
   (gq_iload_n gd_33_84).sn,
   gs_callV (zs := gm_z G) (Cn := gm_R4) (T := gm_T4) (N := 35) rfl hGo (gm_good gm_k32) rfl rfl (gm_f _ gm_w5) (gm_f _ gm_w1085) (gm_f _ gm_w1087) (gm_f _ gm_s41) (by decide +kernel) (by decide) gd_33_85,
   (gs_iast rfl gd_33_88).sn,
   (gq_iload_n gd_33_89).sn,
   (gq_if_ne gd_33_90 (by decide)).sn,
   (gq_aload_n gd_33_93).sn,
   (gs_get (Cn := gm_R4) (T := gm_T4) (N := 35) rfl gm_in4c (by decide) (gm_f _ gm_w886) gd_33_94).sn,
   (gq_bipush gd_33_97 (by decide)).sn,
   (gq_iload_n gd_33_99).sn,
   (gq_imul gd_33_100).sn,
   (gq_iload_n gd_33_101).sn,
   (gq_iadd gd_33_102).sn,
   (gs_iald rfl gd_33_103).sn,
   (gq_bipush gd_33_104 (by decide)).sn,
   (gq_icmp_eq gd_33_106 (by decide)).sn,
   (gq_iconst gd_33_109 (by decide)).sn,
   (gq_goto gd_33_110 (by decide)).sn,
   (gq_iconst gd_33_113 (by decide)).sn,
   (gq_istore_n gd_33_114).sn,
   (gs_inc gd_33_115).sn,
   (gq_goto gd_33_118 (by decide)).sn,
   (gs_inc gd_33_121).sn,
   (gq_goto gd_33_124 (by decide)).sn,
   (gq_goto gd_33_127 (by decide)).sn,
   (gs_ret gd_33_130).sn, trivial⟩
set_option maxRecDepth 100000 in
set_option maxHeartbeats 4000000 in
theorem gm_o34 {G : (Nat → Prop) → State → Heap → Prop} (hGo : gx_Gok G) (l : Launch) : gx_all (gx_Sn l (gm_z G) (gm_cl, gm_tyl, G, Cond.code gm_y34 gm_c34 3 none :: gm_WS, gm_c34, gm_y34, 3, none)) gm_b34 :=
  ⟨(gq_aload_n gd_34_0).sn,
   (gs_get (Cn := gm_R4) (T := gm_T4) (N := 35) rfl gm_in4c (by decide) (gm_f _ gm_w887) gd_34_1).sn,
   (gq_bipush gd_34_4 (by decide)).sn,
   (gq_iload_n gd_34_6).sn,
   (gq_imul gd_34_7).sn,
   (gq_iload_n gd_34_8).sn,
   (gq_iadd gd_34_9).sn,
   (gs_zald rfl gd_34_10).sn,
   (gq_if_ne gd_34_11 (by decide)).sn,
   (gq_aload_n gd_34_14).sn,
   (gs_get (Cn := gm_R4) (T := gm_T4) (N := 35) rfl gm_in4c (by decide) (gm_f _ gm_w887) gd_34_15).sn,
   (gq_bipush gd_34_18 (by decide)).sn,
   (gq_iload_n gd_34_20).sn,
   (gq_imul gd_34_21).sn,
   (gq_iload_n gd_34_22).sn,
   (gq_iadd gd_34_23).sn,
   (gq_iconst gd_34_24 (by decide)).sn,
   (gs_zast rfl gd_34_25).sn,
   (gq_aload_n gd_34_26).sn,
   (gs_get (Cn := gm_R4) (T := gm_T4) (N := 35) rfl gm_in4c (by decide) (gm_f _ gm_w888) gd_34_27).sn,
   (gq_aload_n gd_34_30).sn,
   (gs_get (Cn := gm_R4) (T := gm_T4) (N := 35) rfl gm_in4c (by decide) (gm_f _ gm_w889) gd_34_31).sn,
   (gq_bipush gd_34_34 (by decide)).sn,
   (gq_iload_n gd_34_36).sn,
   (gq_imul gd_34_37).sn,
   (gq_iload_n gd_34_38).sn,
   (gq_iadd gd_34_39).sn,
   (gs_iast rfl gd_34_40).sn,
   (gq_aload_n gd_34_41).sn,
   (gs_dup gd_34_42).sn,
   (gs_get (Cn := gm_R4) (T := gm_T4) (N := 35) rfl gm_in4c (by decide) (gm_f _ gm_w889) gd_34_43).sn,
   (gq_iconst gd_34_46 (by decide)).sn,
   (gq_iadd gd_34_47).sn,
   (gs_puti (Cn := gm_R4) (T := gm_T4) (N := 35) rfl gm_in4c gm_t4 gm_ty4 gm_nm4 (by decide) (by decide +kernel) (gm_f _ gm_w889) rfl gd_34_48).sn,
   (gs_ret gd_34_51).sn, trivial⟩
set_option maxRecDepth 100000 in
set_option maxHeartbeats 4000000 in
theorem gm_o35 {G : (Nat → Prop) → State → Heap → Prop} (hGo : gx_Gok G) (l : Launch) : gx_all (gx_Sn l (gm_z G) (gm_cl, gm_tyl, G, Cond.code gm_y35 gm_c35 3 none :: gm_WS, gm_c35, gm_y35, 3, none)) gm_b35 :=
  ⟨(gq_aload_n gd_35_0).sn,
   (gs_get (Cn := gm_R4) (T := gm_T4) (N := 35) rfl gm_in4c (by decide) (gm_f _ gm_w890) gd_35_1).sn,
   (gq_bipush gd_35_4 (by decide)).sn,
   (gq_iload_n gd_35_6).sn,
   (gq_imul gd_35_7).sn,
   (gq_iload_n gd_35_8).sn,
   (gq_iadd gd_35_9).sn,
   (gs_zald rfl gd_35_10).sn,
   (gq_if_ne gd_35_11 (by decide)).sn,
   (gq_aload_n gd_35_14).sn,
   (gs_get (Cn := gm_R4) (T := gm_T4) (N := 35) rfl gm_in4c (by decide) (gm_f _ gm_w890) gd_35_15).sn,
   (gq_bipush gd_35_18 (by decide)).sn,
   (gq_iload_n gd_35_20).sn,
   (gq_imul gd_35_21).sn,
   (gq_iload_n gd_35_22).sn,
   (gq_iadd gd_35_23).sn,
   (gq_iconst gd_35_24 (by decide)).sn,
   (gs_zast rfl gd_35_25).sn,
   (gq_aload_n gd_35_26).sn,
   (gs_dup gd_35_27).sn,
   (gs_get (Cn := gm_R4) (T := gm_T4) (N := 35) rfl gm_in4c (by decide) (gm_f _ gm_w895) gd_35_28).sn,
   (gq_iconst gd_35_31 (by decide)).sn,
   (gq_iadd gd_35_32).sn,
   (gs_puti (Cn := gm_R4) (T := gm_T4) (N := 35) rfl gm_in4c gm_t4 gm_ty4 gm_nm4 (by decide) (by decide +kernel) (gm_f _ gm_w895) rfl gd_35_33).sn,
   (gq_aload_n gd_35_36).sn,
   (gq_bipush gd_35_37 (by decide)).sn,
   (gq_iload_n gd_35_39).sn,
   (gq_imul gd_35_40).sn,
   (gq_iload_n gd_35_41).sn,
   gs_callV (zs := gm_z G) (Cn := gm_R4) (T := gm_T4) (N := 35) rfl hGo (gm_good gm_k34) rfl rfl (gm_f _ gm_w5) (gm_f _ gm_w1113) (gm_f _ gm_w1115) (gm_f _ gm_s48) (by decide +kernel) (by decide) gd_35_42,
   (gs_ret gd_35_45).sn, trivial⟩
set_option maxRecDepth 100000 in
set_option maxHeartbeats 4000000 in
theorem gm_o36 {G : (Nat → Prop) → State → Heap → Prop} (hGo : gx_Gok G) (l : Launch) : gx_all (gx_Sn l (gm_z G) (gm_cl, gm_tyl, G, Cond.code gm_y36 gm_c36 6 none :: gm_WS, gm_c36, gm_y36, 6, none)) gm_b36 :=
  ⟨(gq_aload_n gd_36_0).sn,
   (gs_get (Cn := gm_R4) (T := gm_T4) (N := 35) rfl gm_in4c (by decide) (gm_f _ gm_w870) gd_36_1).sn,
   (gq_iload_n gd_36_4).sn,
   (gs_iald rfl gd_36_5).sn,
   (gq_istore_n gd_36_6).sn,
   (gq_iload_n gd_36_7).sn,
   (gq_if_ne gd_36_8 (by decide)).sn,
   (gq_aload_n gd_36_11).sn,
   (gq_aload_n gd_36_12).sn,
   (gs_get (Cn := gm_R4) (T := gm_T4) (N := 35) rfl gm_in4c (by decide) (gm_f _ gm_w886) gd_36_13).sn,
   (gq_bipush gd_36_16 (by decide)).sn,
   (gq_iload_n gd_36_18).sn,
   (gq_imul gd_36_19).sn,
   (gq_iload_n gd_36_20).sn,
   (gq_iadd gd_36_21).sn,
   (gs_iald rfl gd_36_22).sn,
   (gq_if_ge gd_36_23 (by decide)).sn,
   (gq_iload_n gd_36_26).sn,
   (gq_aload_n gd_36_27).sn,
   (gs_get (Cn := gm_R4) (T := gm_T4) (N := 35) rfl gm_in4c (by decide) (gm_f _ gm_w894) gd_36_28).sn,
   (gq_icmp_le gd_36_31 (by decide)).sn,
   (gq_iload_n gd_36_34).sn,
   (gq_goto gd_36_35 (by decide)).sn,
   (gq_aload_n gd_36_38).sn,
   (gs_get (Cn := gm_R4) (T := gm_T4) (N := 35) rfl gm_in4c (by decide) (gm_f _ gm_w894) gd_36_39).sn,
   (gs_puti (Cn := gm_R4) (T := gm_T4) (N := 35) rfl gm_in4c gm_t4 gm_ty4 gm_nm4 (by decide) (by decide +kernel) (gm_f _ gm_w894) rfl gd_36_42).sn,
   (gq_goto gd_36_45 (by decide)).sn,
   (gq_iload_n gd_36_48).sn,
   (gq_iconst gd_36_49 (by decide)).sn,
   (gq_icmp_ne gd_36_50 (by decide)).sn,
   (gq_aload_n gd_36_53).sn,
   (gq_aload_n gd_36_54).sn,
   (gs_get (Cn := gm_R4) (T := gm_T4) (N := 35) rfl gm_in4c (by decide) (gm_f _ gm_w871) gd_36_55).sn,
   (gq_iload_n gd_36_58).sn,
   (gs_iald rfl gd_36_59).sn,
   (gq_iload_n gd_36_60).sn,
   gs_callV (zs := gm_z G) (Cn := gm_R4) (T := gm_T4) (N := 35) rfl hGo (gm_good gm_k35) rfl rfl (gm_f _ gm_w5) (gm_f _ gm_w1109) (gm_f _ gm_w1111) (gm_f _ gm_s47) (by decide +kernel) (by decide) gd_36_61,
   (gq_goto gd_36_64 (by decide)).sn,
   (gq_iload_n gd_36_67).sn,
   (gq_bipush gd_36_68 (by decide)).sn,
   (gq_icmp_ne gd_36_70 (by decide)).sn,
   (gq_iconst gd_36_73 (by decide)).sn,
   (gq_istore gd_36_74).sn,
   (gq_aload_n gd_36_76).sn,
   (gs_get (Cn := gm_R4) (T := gm_T4) (N := 35) rfl gm_in4c (by decide) (gm_f _ gm_w871) gd_36_77).sn,
   (gq_iload_n gd_36_80).sn,
   (gs_iald rfl gd_36_81).sn,
   (gq_istore gd_36_82).sn,
   (gq_iload gd_36_84).sn,
   (gq_if_lt gd_36_86 (by decide)).sn,
   (gq_iload gd_36_89).sn,
   (gq_if_eq gd_36_91 (by decide)).sn,
   (gq_aload_n gd_36_94).sn,
   (gq_iload gd_36_95).sn,
   (gq_iload_n gd_36_97).sn,
   gs_callV (zs := gm_z G) (Cn := gm_R4) (T := gm_T4) (N := 35) rfl hGo (gm_good gm_k34) rfl rfl (gm_f _ gm_w5) (gm_f _ gm_w1113) (gm_f _ gm_w1115) (gm_f _ gm_s48) (by decide +kernel) (by decide) gd_36_98,
   (gq_aload_n gd_36_101).sn,
   (gs_get (Cn := gm_R4) (T := gm_T4) (N := 35) rfl gm_in4c (by decide) (gm_f _ gm_w886) gd_36_102).sn,
   (gq_bipush gd_36_105 (by decide)).sn,
   (gq_iload gd_36_107).sn,
   (gq_imul gd_36_109).sn,
   (gq_iload_n gd_36_110).sn,
   (gq_iadd gd_36_111).sn,
   (gs_iald rfl gd_36_112).sn,
   (gq_if_ge gd_36_113 (by decide)).sn,
   (gq_iconst gd_36_116 (by decide)).sn,
   (gq_goto gd_36_117 (by decide)).sn,
   (gq_iconst gd_36_120 (by decide)).sn,
   (gq_istore gd_36_121).sn,
   (gq_aload_n gd_36_123).sn,
   (gs_get (Cn := gm_R4) (T := gm_T4) (N := 35) rfl gm_in4c (by decide) (gm_f _ gm_w873) gd_36_124).sn,
   (gq_iload gd_36_127).sn,
   (gs_iald rfl gd_36_129).sn,
   (gq_istore gd_36_130).sn,
   (gq_goto gd_36_132 (by decide)).sn,
   (gq_goto gd_36_135 (by decide)).sn,
   (gq_iload_n gd_36_138).sn,
   (gq_bipush gd_36_139 (by decide)).sn,
   (gq_icmp_ne gd_36_141 (by decide)).sn,
   (gq_iload_n gd_36_144).sn,
   (gq_istore gd_36_145).sn,
   (gq_aload_n gd_36_147).sn,
   (gs_get (Cn := gm_R4) (T := gm_T4) (N := 35) rfl gm_in4c (by decide) (gm_f _ gm_w871) gd_36_148).sn,
   (gq_iload_n gd_36_151).sn,
   (gs_iald rfl gd_36_152).sn,
   (gq_istore gd_36_153).sn,
   (gq_iload gd_36_155).sn,
   (gq_if_lt gd_36_157 (by decide)).sn,
   (gq_iload gd_36_160).sn,
   (gq_if_lt gd_36_162 (by decide)).sn,
   (gq_aload_n gd_36_165).sn,
   (gq_iload gd_36_166).sn,
   (gq_iload gd_36_168).sn,
   gs_callV (zs := gm_z G) (Cn := gm_R4) (T := gm_T4) (N := 35) rfl hGo (gm_good gm_k34) rfl rfl (gm_f _ gm_w5) (gm_f _ gm_w1113) (gm_f _ gm_w1115) (gm_f _ gm_s48) (by decide +kernel) (by decide) gd_36_170,
   (gq_aload_n gd_36_173).sn,
   (gs_get (Cn := gm_R4) (T := gm_T4) (N := 35) rfl gm_in4c (by decide) (gm_f _ gm_w886) gd_36_174).sn,
   (gq_bipush gd_36_177 (by decide)).sn,
   (gq_iload gd_36_179).sn,
   (gq_imul gd_36_181).sn,
   (gq_iload gd_36_182).sn,
   (gq_iadd gd_36_184).sn,
   (gs_iald rfl gd_36_185).sn,
   (gq_istore gd_36_186).sn,
   (gq_aload_n gd_36_188).sn,
   (gs_get (Cn := gm_R4) (T := gm_T4) (N := 35) rfl gm_in4c (by decide) (gm_f _ gm_w873) gd_36_189).sn,
   (gq_iload gd_36_192).sn,
   (gs_iald rfl gd_36_194).sn,
   (gq_istore gd_36_195).sn,
   (gq_goto gd_36_197 (by decide)).sn,
   (gq_goto gd_36_200 (by decide)).sn,
   (gq_iload_n gd_36_203).sn,
   (gq_iconst gd_36_204 (by decide)).sn,
   (gq_icmp_eq gd_36_205 (by decide)).sn,
   (gq_iload_n gd_36_208).sn,
   (gq_iconst gd_36_209 (by decide)).sn,
   (gq_icmp_ne gd_36_210 (by decide)).sn,
   (gq_iload_n gd_36_213).sn,
   (gq_istore gd_36_214).sn,
   (gq_iload gd_36_216).sn,
   (gq_if_lt gd_36_218 (by decide)).sn,
   (gq_aload_n gd_36_221).sn,
   (gq_aload_n gd_36_222).sn,
   (gs_get (Cn := gm_R4) (T := gm_T4) (N := 35) rfl gm_in4c (by decide) (gm_f _ gm_w871) gd_36_223).sn,
   (gq_iload_n gd_36_226).sn,
   (gs_iald rfl gd_36_227).sn,
   (gq_iload gd_36_228).sn,
   gs_callV (zs := gm_z G) (Cn := gm_R4) (T := gm_T4) (N := 35) rfl hGo (gm_good gm_k34) rfl rfl (gm_f _ gm_w5) (gm_f _ gm_w1113) (gm_f _ gm_w1115) (gm_f _ gm_s48) (by decide +kernel) (by decide) gd_36_230,
   (gq_aload_n gd_36_233).sn,
   (gs_get (Cn := gm_R4) (T := gm_T4) (N := 35) rfl gm_in4c (by decide) (gm_f _ gm_w886) gd_36_234).sn,
   (gq_bipush gd_36_237 (by decide)).sn,
   (gq_aload_n gd_36_239).sn,
   (gs_get (Cn := gm_R4) (T := gm_T4) (N := 35) rfl gm_in4c (by decide) (gm_f _ gm_w871) gd_36_240).sn,
   (gq_iload_n gd_36_243).sn,
   (gs_iald rfl gd_36_244).sn,
   (gq_imul gd_36_245).sn,
   (gq_iload gd_36_246).sn,
   (gq_iadd gd_36_248).sn,
   (gs_iald rfl gd_36_249).sn,
   (gq_istore gd_36_250).sn,
   (gq_goto gd_36_252 (by decide)).sn,
   (gq_goto gd_36_255 (by decide)).sn,
   (gq_iload_n gd_36_258).sn,
   (gq_iconst gd_36_259 (by decide)).sn,
   (gq_icmp_eq gd_36_260 (by decide)).sn,
   (gq_aload_n gd_36_263).sn,
   (gq_aload_n gd_36_264).sn,
   (gs_get (Cn := gm_R4) (T := gm_T4) (N := 35) rfl gm_in4c (by decide) (gm_f _ gm_w871) gd_36_265).sn,
   (gq_iload_n gd_36_268).sn,
   (gs_iald rfl gd_36_269).sn,
   (gq_iload_n gd_36_270).sn,
   gs_callV (zs := gm_z G) (Cn := gm_R4) (T := gm_T4) (N := 35) rfl hGo (gm_good gm_k34) rfl rfl (gm_f _ gm_w5) (gm_f _ gm_w1113) (gm_f _ gm_w1115) (gm_f _ gm_s48) (by decide +kernel) (by decide) gd_36_271,
   (gs_ret gd_36_274).sn, trivial⟩
set_option maxRecDepth 100000 in
set_option maxHeartbeats 4000000 in
theorem gm_o37 {G : (Nat → Prop) → State → Heap → Prop} (hGo : gx_Gok G) (l : Launch) : gx_all (gx_Sn l (gm_z G) (gm_cl, gm_tyl, G, Cond.code gm_y37 gm_c37 4 none :: gm_WS, gm_c37, gm_y37, 4, none)) gm_b37 :=
  ⟨(gq_iconst gd_37_0 (by decide)).sn,
   (gq_istore_n gd_37_1).sn,
   (gq_iload_n gd_37_2).sn,
   (gq_sipush gd_37_3 (by decide)).sn,
   (gq_icmp_ge gd_37_6 (by decide)).sn,
   (gq_aload_n gd_37_9).sn,
   (gs_get (Cn := gm_R4) (T := gm_T4) (N := 35) rfl gm_in4c (by decide) (gm_f _ gm_w887) gd_37_10).sn,
   (gq_iload_n gd_37_13).sn,
   (gq_iconst gd_37_14 (by decide)).sn,
   (gs_zast rfl gd_37_15).sn,
   (gs_inc gd_37_16).sn,
   (gq_goto gd_37_19 (by decide)).sn,
   (gq_iconst gd_37_22 (by decide)).sn,
   (gq_istore_n gd_37_23).sn,
   (gq_iload_n gd_37_24).sn,
   (gq_bipush gd_37_25 (by decide)).sn,
   (gq_icmp_ge gd_37_27 (by decide)).sn,
   (gq_aload_n gd_37_30).sn,
   (gs_get (Cn := gm_R4) (T := gm_T4) (N := 35) rfl gm_in4c (by decide) (gm_f _ gm_w890) gd_37_31).sn,
   (gq_iload_n gd_37_34).sn,
   (gq_iconst gd_37_35 (by decide)).sn,
   (gs_zast rfl gd_37_36).sn,
   (gs_inc gd_37_37).sn,
   (gq_goto gd_37_40 (by decide)).sn,
   (gq_aload_n gd_37_43).sn,
   (gq_iconst gd_37_44 (by decide)).sn,
   (gs_puti (Cn := gm_R4) (T := gm_T4) (N := 35) rfl gm_in4c gm_t4 gm_ty4 gm_nm4 (by decide) (by decide +kernel) (gm_f _ gm_w894) rfl gd_37_45).sn,
   (gq_aload_n gd_37_48).sn,
   (gq_iconst gd_37_49 (by decide)).sn,
   (gs_puti (Cn := gm_R4) (T := gm_T4) (N := 35) rfl gm_in4c gm_t4 gm_ty4 gm_nm4 (by decide) (by decide +kernel) (gm_f _ gm_w895) rfl gd_37_50).sn,
   (gq_aload_n gd_37_53).sn,
   (gq_iconst gd_37_54 (by decide)).sn,
   (gs_puti (Cn := gm_R4) (T := gm_T4) (N := 35) rfl gm_in4c gm_t4 gm_ty4 gm_nm4 (by decide) (by decide +kernel) (gm_f _ gm_w889) rfl gd_37_55).sn,
   (gq_aload_n gd_37_58).sn,
   (gq_iload_n gd_37_59).sn,
   (gq_iload_n gd_37_60).sn,
   gs_callV (zs := gm_z G) (Cn := gm_R4) (T := gm_T4) (N := 35) rfl hGo (gm_good gm_k35) rfl rfl (gm_f _ gm_w5) (gm_f _ gm_w1109) (gm_f _ gm_w1111) (gm_f _ gm_s47) (by decide +kernel) (by decide) gd_37_61,
   (gq_aload_n gd_37_64).sn,
   (gs_get (Cn := gm_R4) (T := gm_T4) (N := 35) rfl gm_in4c (by decide) (gm_f _ gm_w889) gd_37_65).sn,
   (gq_if_le gd_37_68 (by decide)).sn,
   (gq_aload_n gd_37_71).sn,
   (gs_dup gd_37_72).sn,
   (gs_get (Cn := gm_R4) (T := gm_T4) (N := 35) rfl gm_in4c (by decide) (gm_f _ gm_w889) gd_37_73).sn,
   (gq_iconst gd_37_76 (by decide)).sn,
   (gq_isub gd_37_77).sn,
   (gs_puti (Cn := gm_R4) (T := gm_T4) (N := 35) rfl gm_in4c gm_t4 gm_ty4 gm_nm4 (by decide) (by decide +kernel) (gm_f _ gm_w889) rfl gd_37_78).sn,
   (gq_aload_n gd_37_81).sn,
   (gs_get (Cn := gm_R4) (T := gm_T4) (N := 35) rfl gm_in4c (by decide) (gm_f _ gm_w888) gd_37_82).sn,
   (gq_aload_n gd_37_85).sn,
   (gs_get (Cn := gm_R4) (T := gm_T4) (N := 35) rfl gm_in4c (by decide) (gm_f _ gm_w889) gd_37_86).sn,
   (gs_iald rfl gd_37_89).sn,
   (gq_istore_n gd_37_90).sn,
   (gq_aload_n gd_37_91).sn,
   (gq_iload_n gd_37_92).sn,
   (gq_bipush gd_37_93 (by decide)).sn,
   (gq_idiv gd_37_95).sn,
   (gq_iload_n gd_37_96).sn,
   (gq_bipush gd_37_97 (by decide)).sn,
   (gq_irem gd_37_99).sn,
   gs_callV (zs := gm_z G) (Cn := gm_R4) (T := gm_T4) (N := 35) rfl hGo (gm_good gm_k36) rfl rfl (gm_f _ gm_w5) (gm_f _ gm_w1117) (gm_f _ gm_w1119) (gm_f _ gm_s49) (by decide +kernel) (by decide) gd_37_100,
   (gq_goto gd_37_103 (by decide)).sn,
   (gs_ret gd_37_106).sn, trivial⟩
set_option maxRecDepth 100000 in
set_option maxHeartbeats 4000000 in
theorem gm_o38 {G : (Nat → Prop) → State → Heap → Prop} (hGo : gx_Gok G) (l : Launch) : gx_all (gx_Sn l (gm_z G) (gm_cl, gm_tyl, G, Cond.code gm_y38 gm_c38 3 none :: gm_WS, gm_c38, gm_y38, 3, none)) gm_b38 :=
  ⟨(gq_aload_n gd_38_0).sn,
   (gs_get (Cn := gm_R4) (T := gm_T4) (N := 35) rfl gm_in4c (by decide) (gm_f _ gm_w891) gd_38_1).sn,
   (gq_bipush gd_38_4 (by decide)).sn,
   (gq_icmp_ge gd_38_6 (by decide)).sn,
   (gq_aload_n gd_38_9).sn,
   (gs_get (Cn := gm_R4) (T := gm_T4) (N := 35) rfl gm_in4c (by decide) (gm_f _ gm_w892) gd_38_10).sn,
   (gq_aload_n gd_38_13).sn,
   (gs_get (Cn := gm_R4) (T := gm_T4) (N := 35) rfl gm_in4c (by decide) (gm_f _ gm_w891) gd_38_14).sn,
   (gq_iload_n gd_38_17).sn,
   (gs_iast rfl gd_38_18).sn,
   (gq_aload_n gd_38_19).sn,
   (gs_get (Cn := gm_R4) (T := gm_T4) (N := 35) rfl gm_in4c (by decide) (gm_f _ gm_w893) gd_38_20).sn,
   (gq_aload_n gd_38_23).sn,
   (gs_get (Cn := gm_R4) (T := gm_T4) (N := 35) rfl gm_in4c (by decide) (gm_f _ gm_w891) gd_38_24).sn,
   (gq_iload_n gd_38_27).sn,
   (gs_iast rfl gd_38_28).sn,
   (gq_aload_n gd_38_29).sn,
   (gs_dup gd_38_30).sn,
   (gs_get (Cn := gm_R4) (T := gm_T4) (N := 35) rfl gm_in4c (by decide) (gm_f _ gm_w891) gd_38_31).sn,
   (gq_iconst gd_38_34 (by decide)).sn,
   (gq_iadd gd_38_35).sn,
   (gs_puti (Cn := gm_R4) (T := gm_T4) (N := 35) rfl gm_in4c gm_t4 gm_ty4 gm_nm4 (by decide) (by decide +kernel) (gm_f _ gm_w891) rfl gd_38_36).sn,
   (gs_ret gd_38_39).sn, trivial⟩
set_option maxRecDepth 100000 in
set_option maxHeartbeats 4000000 in
theorem gm_o39 {G : (Nat → Prop) → State → Heap → Prop} (hGo : gx_Gok G) (l : Launch) : gx_all (gx_Sn l (gm_z G) (gm_cl, gm_tyl, G, Cond.code gm_y39 gm_c39 5 none :: gm_WS, gm_c39, gm_y39, 5, none)) gm_b39 :=
  ⟨(gq_iload_n gd_39_0).sn,
   (gq_istore_n gd_39_1).sn,
   (gq_aload_n gd_39_2).sn,
   (gs_get (Cn := gm_R4) (T := gm_T4) (N := 35) rfl gm_in4c (by decide) (gm_f _ gm_w889) gd_39_3).sn,
   (gq_iconst gd_39_6 (by decide)).sn,
   (gq_isub gd_39_7).sn,
   (gq_istore_n gd_39_8).sn,
   (gq_iload_n gd_39_9).sn,
   (gq_iload_n gd_39_10).sn,
   (gq_icmp_ge gd_39_11 (by decide)).sn,
   (gq_aload_n gd_39_14).sn,
   (gs_get (Cn := gm_R4) (T := gm_T4) (N := 35) rfl gm_in4c (by decide) (gm_f _ gm_w888) gd_39_15).sn,
   (gq_iload_n gd_39_18).sn,
   (gs_iald rfl gd_39_19).sn,
   (gq_istore gd_39_20).sn,
   (gq_aload_n gd_39_22).sn,
   (gs_get (Cn := gm_R4) (T := gm_T4) (N := 35) rfl gm_in4c (by decide) (gm_f _ gm_w888) gd_39_23).sn,
   (gq_iload_n gd_39_26).sn,
   (gq_aload_n gd_39_27).sn,
   (gs_get (Cn := gm_R4) (T := gm_T4) (N := 35) rfl gm_in4c (by decide) (gm_f _ gm_w888) gd_39_28).sn,
   (gq_iload_n gd_39_31).sn,
   (gs_iald rfl gd_39_32).sn,
   (gs_iast rfl gd_39_33).sn,
   (gq_aload_n gd_39_34).sn,
   (gs_get (Cn := gm_R4) (T := gm_T4) (N := 35) rfl gm_in4c (by decide) (gm_f _ gm_w888) gd_39_35).sn,
   (gq_iload_n gd_39_38).sn,
   (gq_iload gd_39_39).sn,
   (gs_iast rfl gd_39_41).sn,
   (gs_inc gd_39_42).sn,
   (gs_inc gd_39_45).sn,
   (gq_goto gd_39_48 (by decide)).sn,
   (gs_ret gd_39_51).sn, trivial⟩
set_option maxRecDepth 100000 in
set_option maxHeartbeats 4000000 in
theorem gm_o40 {G : (Nat → Prop) → State → Heap → Prop} (hGo : gx_Gok G) (l : Launch) : gx_all (gx_Sn l (gm_z G) (gm_cl, gm_tyl, G, Cond.code gm_y40 gm_c40 3 none :: gm_WS, gm_c40, gm_y40, 3, none)) gm_b40 :=
  ⟨(gq_aload_n gd_40_0).sn,
   (gs_get (Cn := gm_R4) (T := gm_T4) (N := 35) rfl gm_in4c (by decide) (gm_f _ gm_w888) gd_40_1).sn,
   (gq_aload_n gd_40_4).sn,
   (gs_get (Cn := gm_R4) (T := gm_T4) (N := 35) rfl gm_in4c (by decide) (gm_f _ gm_w889) gd_40_5).sn,
   (gq_bipush gd_40_8 (by decide)).sn,
   (gq_iload_n gd_40_10).sn,
   (gq_imul gd_40_11).sn,
   (gq_iload_n gd_40_12).sn,
   (gq_iadd gd_40_13).sn,
   (gs_iast rfl gd_40_14).sn,
   (gq_aload_n gd_40_15).sn,
   (gs_dup gd_40_16).sn,
   (gs_get (Cn := gm_R4) (T := gm_T4) (N := 35) rfl gm_in4c (by decide) (gm_f _ gm_w889) gd_40_17).sn,
   (gq_iconst gd_40_20 (by decide)).sn,
   (gq_iadd gd_40_21).sn,
   (gs_puti (Cn := gm_R4) (T := gm_T4) (N := 35) rfl gm_in4c gm_t4 gm_ty4 gm_nm4 (by decide) (by decide +kernel) (gm_f _ gm_w889) rfl gd_40_22).sn,
   (gs_ret gd_40_25).sn, trivial⟩
set_option maxRecDepth 100000 in
set_option maxHeartbeats 4000000 in
theorem gm_o41 {G : (Nat → Prop) → State → Heap → Prop} (hGo : gx_Gok G) (l : Launch) : gx_all (gx_Sn l (gm_z G) (gm_cl, gm_tyl, G, Cond.code gm_y41 gm_c41 7 none :: gm_WS, gm_c41, gm_y41, 7, none)) gm_b41 :=
  ⟨(gq_aload_n gd_41_0).sn,
   (gs_get (Cn := gm_R4) (T := gm_T4) (N := 35) rfl gm_in4c (by decide) (gm_f _ gm_w870) gd_41_1).sn,
   (gq_iload_n gd_41_4).sn,
   (gs_iald rfl gd_41_5).sn,
   (gq_istore_n gd_41_6).sn,
   (gq_aload_n gd_41_7).sn,
   (gs_get (Cn := gm_R4) (T := gm_T4) (N := 35) rfl gm_in4c (by decide) (gm_f _ gm_w889) gd_41_8).sn,
   (gq_istore gd_41_11).sn,
   (gq_iload_n gd_41_13).sn,
   (gq_iconst gd_41_14 (by decide)).sn,
   (gq_icmp_ne gd_41_15 (by decide)).sn,
   (gq_aload_n gd_41_18).sn,
   (gq_iload_n gd_41_19).sn,
   (gq_iload_n gd_41_20).sn,
   gs_callV (zs := gm_z G) (Cn := gm_R4) (T := gm_T4) (N := 35) rfl hGo (gm_good gm_k38) rfl rfl (gm_f _ gm_w5) (gm_f _ gm_w1129) (gm_f _ gm_w1131) (gm_f _ gm_s52) (by decide +kernel) (by decide) gd_41_21,
   (gq_goto gd_41_24 (by decide)).sn,
   (gq_iload_n gd_41_27).sn,
   (gq_iconst gd_41_28 (by decide)).sn,
   (gq_icmp_ne gd_41_29 (by decide)).sn,
   (gq_aload_n gd_41_32).sn,
   (gq_iload_n gd_41_33).sn,
   (gq_aload_n gd_41_34).sn,
   (gs_get (Cn := gm_R4) (T := gm_T4) (N := 35) rfl gm_in4c (by decide) (gm_f _ gm_w886) gd_41_35).sn,
   (gq_bipush gd_41_38 (by decide)).sn,
   (gq_iload_n gd_41_40).sn,
   (gq_imul gd_41_41).sn,
   (gq_iload_n gd_41_42).sn,
   (gq_iadd gd_41_43).sn,
   (gs_iald rfl gd_41_44).sn,
   gs_callV (zs := gm_z G) (Cn := gm_R4) (T := gm_T4) (N := 35) rfl hGo (gm_good gm_k38) rfl rfl (gm_f _ gm_w5) (gm_f _ gm_w1129) (gm_f _ gm_w1131) (gm_f _ gm_s52) (by decide +kernel) (by decide) gd_41_45,
   (gq_aload_n gd_41_48).sn,
   (gq_aload_n gd_41_49).sn,
   (gs_get (Cn := gm_R4) (T := gm_T4) (N := 35) rfl gm_in4c (by decide) (gm_f _ gm_w871) gd_41_50).sn,
   (gq_iload_n gd_41_53).sn,
   (gs_iald rfl gd_41_54).sn,
   (gq_iload_n gd_41_55).sn,
   gs_callV (zs := gm_z G) (Cn := gm_R4) (T := gm_T4) (N := 35) rfl hGo (gm_good gm_k40) rfl rfl (gm_f _ gm_w5) (gm_f _ gm_w1121) (gm_f _ gm_w1123) (gm_f _ gm_s50) (by decide +kernel) (by decide) gd_41_56,
   (gq_goto gd_41_59 (by decide)).sn,
   (gq_iload_n gd_41_62).sn,
   (gq_iconst gd_41_63 (by decide)).sn,
   (gq_icmp_ne gd_41_64 (by decide)).sn,
   (gq_aload_n gd_41_67).sn,
   (gq_bipush gd_41_68 (by decide)).sn,
   (gq_aload_n gd_41_70).sn,
   (gs_get (Cn := gm_R4) (T := gm_T4) (N := 35) rfl gm_in4c (by decide) (gm_f _ gm_w871) gd_41_71).sn,
   (gq_iload_n gd_41_74).sn,
   (gs_iald rfl gd_41_75).sn,
   (gq_imul gd_41_76).sn,
   (gq_iload_n gd_41_77).sn,
   gs_callV (zs := gm_z G) (Cn := gm_R4) (T := gm_T4) (N := 35) rfl hGo (gm_good gm_k40) rfl rfl (gm_f _ gm_w5) (gm_f _ gm_w1121) (gm_f _ gm_w1123) (gm_f _ gm_s50) (by decide +kernel) (by decide) gd_41_78,
   (gq_goto gd_41_81 (by decide)).sn,
   (gq_iload_n gd_41_84).sn,
   (gq_bipush gd_41_85 (by decide)).sn,
   (gq_icmp_ne gd_41_87 (by decide)).sn,
   (gq_aload_n gd_41_90).sn,
   (gs_get (Cn := gm_R4) (T := gm_T4) (N := 35) rfl gm_in4c (by decide) (gm_f _ gm_w871) gd_41_91).sn,
   (gq_iload_n gd_41_94).sn,
   (gs_iald rfl gd_41_95).sn,
   (gq_istore gd_41_96).sn,
   (gq_aload_n gd_41_98).sn,
   (gs_get (Cn := gm_R4) (T := gm_T4) (N := 35) rfl gm_in4c (by decide) (gm_f _ gm_w886) gd_41_99).sn,
   (gq_bipush gd_41_102 (by decide)).sn,
   (gq_iload gd_41_104).sn,
   (gq_imul gd_41_106).sn,
   (gq_iload_n gd_41_107).sn,
   (gq_iadd gd_41_108).sn,
   (gs_iald rfl gd_41_109).sn,
   (gq_if_ge gd_41_110 (by decide)).sn,
   (gq_aload_n gd_41_113).sn,
   (gs_get (Cn := gm_R4) (T := gm_T4) (N := 35) rfl gm_in4c (by decide) (gm_f _ gm_w873) gd_41_114).sn,
   (gq_iload gd_41_117).sn,
   (gs_iald rfl gd_41_119).sn,
   (gq_istore gd_41_120).sn,
   (gq_goto gd_41_122 (by decide)).sn,
   (gq_aload_n gd_41_125).sn,
   (gq_iload gd_41_126).sn,
   (gq_iload_n gd_41_128).sn,
   gs_callV (zs := gm_z G) (Cn := gm_R4) (T := gm_T4) (N := 35) rfl hGo (gm_good gm_k40) rfl rfl (gm_f _ gm_w5) (gm_f _ gm_w1121) (gm_f _ gm_w1123) (gm_f _ gm_s50) (by decide +kernel) (by decide) gd_41_129,
   (gq_goto gd_41_132 (by decide)).sn,
   (gq_iload_n gd_41_135).sn,
   (gq_bipush gd_41_136 (by decide)).sn,
   (gq_icmp_ne gd_41_138 (by decide)).sn,
   (gq_iload_n gd_41_141).sn,
   (gq_istore gd_41_142).sn,
   (gq_aload_n gd_41_144).sn,
   (gs_get (Cn := gm_R4) (T := gm_T4) (N := 35) rfl gm_in4c (by decide) (gm_f _ gm_w871) gd_41_145).sn,
   (gq_iload_n gd_41_148).sn,
   (gs_iald rfl gd_41_149).sn,
   (gq_istore gd_41_150).sn,
   (gq_iload gd_41_152).sn,
   (gq_if_lt gd_41_154 (by decide)).sn,
   (gq_aload_n gd_41_157).sn,
   (gq_iload gd_41_158).sn,
   (gq_iload gd_41_160).sn,
   gs_callV (zs := gm_z G) (Cn := gm_R4) (T := gm_T4) (N := 35) rfl hGo (gm_good gm_k40) rfl rfl (gm_f _ gm_w5) (gm_f _ gm_w1121) (gm_f _ gm_w1123) (gm_f _ gm_s50) (by decide +kernel) (by decide) gd_41_162,
   (gq_aload_n gd_41_165).sn,
   (gs_get (Cn := gm_R4) (T := gm_T4) (N := 35) rfl gm_in4c (by decide) (gm_f _ gm_w886) gd_41_166).sn,
   (gq_bipush gd_41_169 (by decide)).sn,
   (gq_iload gd_41_171).sn,
   (gq_imul gd_41_173).sn,
   (gq_iload gd_41_174).sn,
   (gq_iadd gd_41_176).sn,
   (gs_iald rfl gd_41_177).sn,
   (gq_istore gd_41_178).sn,
   (gq_aload_n gd_41_180).sn,
   (gs_get (Cn := gm_R4) (T := gm_T4) (N := 35) rfl gm_in4c (by decide) (gm_f _ gm_w873) gd_41_181).sn,
   (gq_iload gd_41_184).sn,
   (gs_iald rfl gd_41_186).sn,
   (gq_istore gd_41_187).sn,
   (gq_goto gd_41_189 (by decide)).sn,
   (gq_aload_n gd_41_192).sn,
   (gq_iload gd_41_193).sn,
   gs_callV (zs := gm_z G) (Cn := gm_R4) (T := gm_T4) (N := 35) rfl hGo (gm_good gm_k39) rfl rfl (gm_f _ gm_w5) (gm_f _ gm_w1133) (gm_f _ gm_w1135) (gm_f _ gm_s53) (by decide +kernel) (by decide) gd_41_195,
   (gq_goto gd_41_198 (by decide)).sn,
   (gq_iload_n gd_41_201).sn,
   (gq_iconst gd_41_202 (by decide)).sn,
   (gq_icmp_eq gd_41_203 (by decide)).sn,
   (gq_iload_n gd_41_206).sn,
   (gq_iconst gd_41_207 (by decide)).sn,
   (gq_icmp_eq gd_41_208 (by decide)).sn,
   (gq_iload_n gd_41_211).sn,
   (gq_bipush gd_41_212 (by decide)).sn,
   (gq_icmp_ne gd_41_214 (by decide)).sn,
   (gq_iload_n gd_41_217).sn,
   (gq_istore gd_41_218).sn,
   (gq_aload_n gd_41_220).sn,
   (gs_get (Cn := gm_R4) (T := gm_T4) (N := 35) rfl gm_in4c (by decide) (gm_f _ gm_w886) gd_41_221).sn,
   (gq_bipush gd_41_224 (by decide)).sn,
   (gq_aload_n gd_41_226).sn,
   (gs_get (Cn := gm_R4) (T := gm_T4) (N := 35) rfl gm_in4c (by decide) (gm_f _ gm_w871) gd_41_227).sn,
   (gq_iload_n gd_41_230).sn,
   (gs_iald rfl gd_41_231).sn,
   (gq_imul gd_41_232).sn,
   (gq_iload gd_41_233).sn,
   (gq_iadd gd_41_235).sn,
   (gs_iald rfl gd_41_236).sn,
   (gq_if_lt gd_41_237 (by decide)).sn,
   (gq_iload_n gd_41_240).sn,
   (gq_bipush gd_41_241 (by decide)).sn,
   (gq_icmp_ne gd_41_243 (by decide)).sn,
   (gq_aload_n gd_41_246).sn,
   (gs_get (Cn := gm_R4) (T := gm_T4) (N := 35) rfl gm_in4c (by decide) (gm_f _ gm_w889) gd_41_247).sn,
   (gq_iload gd_41_250).sn,
   (gq_icmp_ne gd_41_252 (by decide)).sn,
   (gq_aload_n gd_41_255).sn,
   (gq_aload_n gd_41_256).sn,
   (gs_get (Cn := gm_R4) (T := gm_T4) (N := 35) rfl gm_in4c (by decide) (gm_f _ gm_w871) gd_41_257).sn,
   (gq_iload_n gd_41_260).sn,
   (gs_iald rfl gd_41_261).sn,
   (gq_iload gd_41_262).sn,
   gs_callV (zs := gm_z G) (Cn := gm_R4) (T := gm_T4) (N := 35) rfl hGo (gm_good gm_k40) rfl rfl (gm_f _ gm_w5) (gm_f _ gm_w1121) (gm_f _ gm_w1123) (gm_f _ gm_s50) (by decide +kernel) (by decide) gd_41_264,
   (gq_aload_n gd_41_267).sn,
   (gs_get (Cn := gm_R4) (T := gm_T4) (N := 35) rfl gm_in4c (by decide) (gm_f _ gm_w886) gd_41_268).sn,
   (gq_bipush gd_41_271 (by decide)).sn,
   (gq_aload_n gd_41_273).sn,
   (gs_get (Cn := gm_R4) (T := gm_T4) (N := 35) rfl gm_in4c (by decide) (gm_f _ gm_w871) gd_41_274).sn,
   (gq_iload_n gd_41_277).sn,
   (gs_iald rfl gd_41_278).sn,
   (gq_imul gd_41_279).sn,
   (gq_iload gd_41_280).sn,
   (gq_iadd gd_41_282).sn,
   (gs_iald rfl gd_41_283).sn,
   (gq_istore gd_41_284).sn,
   (gq_goto gd_41_286 (by decide)).sn,
   (gq_aload_n gd_41_289).sn,
   (gq_iload gd_41_290).sn,
   gs_callV (zs := gm_z G) (Cn := gm_R4) (T := gm_T4) (N := 35) rfl hGo (gm_good gm_k39) rfl rfl (gm_f _ gm_w5) (gm_f _ gm_w1133) (gm_f _ gm_w1135) (gm_f _ gm_s53) (by decide +kernel) (by decide) gd_41_292,
   (gs_ret gd_41_295).sn, trivial⟩
set_option maxRecDepth 100000 in
set_option maxHeartbeats 4000000 in
theorem gm_o42 {G : (Nat → Prop) → State → Heap → Prop} (hGo : gx_Gok G) (l : Launch) : gx_all (gx_Sn l (gm_z G) (gm_cl, gm_tyl, G, Cond.code gm_y42 gm_c42 5 (some .int) :: gm_WS, gm_c42, gm_y42, 5, (some .int))) gm_b42 :=
  ⟨(gq_aload_n gd_42_0).sn,
   (gq_iload_n gd_42_1).sn,
   (gq_iload_n gd_42_2).sn,
   gs_callV (zs := gm_z G) (Cn := gm_R4) (T := gm_T4) (N := 35) rfl hGo (gm_good gm_k37) rfl rfl (gm_f _ gm_w5) (gm_f _ gm_w1105) (gm_f _ gm_w1107) (gm_f _ gm_s46) (by decide +kernel) (by decide) gd_42_3,
   (gq_aload_n gd_42_6).sn,
   (gq_iconst gd_42_7 (by decide)).sn,
   (gs_puti (Cn := gm_R4) (T := gm_T4) (N := 35) rfl gm_in4c gm_t4 gm_ty4 gm_nm4 (by decide) (by decide +kernel) (gm_f _ gm_w891) rfl gd_42_8).sn,
   (gq_aload_n gd_42_11).sn,
   (gs_get (Cn := gm_R4) (T := gm_T4) (N := 35) rfl gm_in4c (by decide) (gm_f _ gm_w886) gd_42_12).sn,
   (gq_sipush gd_42_15 (by decide)).sn,
   (gq_iload_n gd_42_18).sn,
   (gq_imul gd_42_19).sn,
   (gq_iload_n gd_42_20).sn,
   (gq_iadd gd_42_21).sn,
   (gs_iald rfl gd_42_22).sn,
   (gq_istore_n gd_42_23).sn,
   (gq_aload_n gd_42_24).sn,
   (gq_iconst gd_42_25 (by decide)).sn,
   (gs_puti (Cn := gm_R4) (T := gm_T4) (N := 35) rfl gm_in4c gm_t4 gm_ty4 gm_nm4 (by decide) (by decide +kernel) (gm_f _ gm_w889) rfl gd_42_26).sn,
   (gq_iload_n gd_42_29).sn,
   (gq_if_lt gd_42_30 (by decide)).sn,
   (gq_aload_n gd_42_33).sn,
   (gq_bipush gd_42_34 (by decide)).sn,
   (gq_iload_n gd_42_36).sn,
   (gq_imul gd_42_37).sn,
   (gq_iload_n gd_42_38).sn,
   gs_callV (zs := gm_z G) (Cn := gm_R4) (T := gm_T4) (N := 35) rfl hGo (gm_good gm_k40) rfl rfl (gm_f _ gm_w5) (gm_f _ gm_w1121) (gm_f _ gm_w1123) (gm_f _ gm_s50) (by decide +kernel) (by decide) gd_42_39,
   (gq_aload_n gd_42_42).sn,
   (gs_get (Cn := gm_R4) (T := gm_T4) (N := 35) rfl gm_in4c (by decide) (gm_f _ gm_w889) gd_42_43).sn,
   (gq_if_le gd_42_46 (by decide)).sn,
   (gq_aload_n gd_42_49).sn,
   (gs_get (Cn := gm_R4) (T := gm_T4) (N := 35) rfl gm_in4c (by decide) (gm_f _ gm_w891) gd_42_50).sn,
   (gq_bipush gd_42_53 (by decide)).sn,
   (gq_icmp_ge gd_42_55 (by decide)).sn,
   (gq_aload_n gd_42_58).sn,
   (gs_dup gd_42_59).sn,
   (gs_get (Cn := gm_R4) (T := gm_T4) (N := 35) rfl gm_in4c (by decide) (gm_f _ gm_w889) gd_42_60).sn,
   (gq_iconst gd_42_63 (by decide)).sn,
   (gq_isub gd_42_64).sn,
   (gs_puti (Cn := gm_R4) (T := gm_T4) (N := 35) rfl gm_in4c gm_t4 gm_ty4 gm_nm4 (by decide) (by decide +kernel) (gm_f _ gm_w889) rfl gd_42_65).sn,
   (gq_aload_n gd_42_68).sn,
   (gs_get (Cn := gm_R4) (T := gm_T4) (N := 35) rfl gm_in4c (by decide) (gm_f _ gm_w888) gd_42_69).sn,
   (gq_aload_n gd_42_72).sn,
   (gs_get (Cn := gm_R4) (T := gm_T4) (N := 35) rfl gm_in4c (by decide) (gm_f _ gm_w889) gd_42_73).sn,
   (gs_iald rfl gd_42_76).sn,
   (gq_istore gd_42_77).sn,
   (gq_aload_n gd_42_79).sn,
   (gq_iload gd_42_80).sn,
   (gq_bipush gd_42_82 (by decide)).sn,
   (gq_idiv gd_42_84).sn,
   (gq_iload gd_42_85).sn,
   (gq_bipush gd_42_87 (by decide)).sn,
   (gq_irem gd_42_89).sn,
   gs_callV (zs := gm_z G) (Cn := gm_R4) (T := gm_T4) (N := 35) rfl hGo (gm_good gm_k41) rfl rfl (gm_f _ gm_w5) (gm_f _ gm_w1125) (gm_f _ gm_w1127) (gm_f _ gm_s51) (by decide +kernel) (by decide) gd_42_90,
   (gq_goto gd_42_93 (by decide)).sn,
   (gq_iload_n gd_42_96).sn,
   (gs_ireti gd_42_97).sn, trivial⟩
set_option maxRecDepth 100000 in
set_option maxHeartbeats 4000000 in
theorem gm_o43 {G : (Nat → Prop) → State → Heap → Prop} (hGo : gx_Gok G) (l : Launch) : gx_all (gx_Sn l (gm_z G) (gm_cl, gm_tyl, G, Cond.code gm_y43 gm_c43 3 (some .int) :: gm_WS, gm_c43, gm_y43, 3, (some .int))) gm_b43 :=
  ⟨(gq_aload_n gd_43_0).sn,
   (gq_iload_n gd_43_1).sn,
   gs_callS (zs := gm_z G) rfl hGo (gm_good gm_k2) rfl (gm_f _ gm_w5) (gm_f _ gm_w1042) (gm_f _ gm_w1043) (by decide +kernel) (by decide) gd_43_2,
   (gq_if_eq gd_43_5 (by decide)).sn,
   (gq_iload_n gd_43_8).sn,
   (gq_if_lt gd_43_9 (by decide)).sn,
   (gq_iload_n gd_43_12).sn,
   (gq_aload_n gd_43_13).sn,
   (gs_get (Cn := gm_R4) (T := gm_T4) (N := 35) rfl gm_in4c (by decide) (gm_f _ gm_w865) gd_43_14).sn,
   (gq_icmp_le gd_43_17 (by decide)).sn,
   (gq_iconst gd_43_20 (by decide)).sn,
   (gq_goto gd_43_21 (by decide)).sn,
   (gq_aload_n gd_43_24).sn,
   (gq_iload_n gd_43_25).sn,
   gs_callV (zs := gm_z G) (Cn := gm_R4) (T := gm_T4) (N := 35) rfl hGo (gm_good gm_k27) rfl rfl (gm_f _ gm_w5) (gm_f _ gm_w1053) (gm_f _ gm_w1055) (gm_f _ gm_s34) (by decide +kernel) (by decide) gd_43_26,
   (gq_if_eq gd_43_29 (by decide)).sn,
   (gq_iconst gd_43_32 (by decide)).sn,
   (gq_goto gd_43_33 (by decide)).sn,
   (gq_iconst gd_43_36 (by decide)).sn,
   (gs_puti (Cn := gm_R4) (T := gm_T4) (N := 35) rfl gm_in4c gm_t4 gm_ty4 gm_nm4 (by decide) (by decide +kernel) (gm_f _ gm_w861) rfl gd_43_37).sn,
   (gq_aload_n gd_43_40).sn,
   (gs_get (Cn := gm_R4) (T := gm_T4) (N := 35) rfl gm_in4c (by decide) (gm_f _ gm_w861) gd_43_41).sn,
   (gq_if_le gd_43_44 (by decide)).sn,
   (gq_iconst gd_43_47 (by decide)).sn,
   (gs_ireti gd_43_48).sn,
   (gq_aload_n gd_43_49).sn,
   gs_callV (zs := gm_z G) (Cn := gm_R4) (T := gm_T4) (N := 35) rfl hGo (gm_good gm_k33) rfl rfl (gm_f _ gm_w5) (gm_f _ gm_w1081) (gm_f _ gm_w1083) (gm_f _ gm_s40) (by decide +kernel) (by decide) gd_43_50,
   (gq_aload_n gd_43_53).sn,
   (gq_iload_n gd_43_54).sn,
   (gq_iload_n gd_43_55).sn,
   gs_callV (zs := gm_z G) (Cn := gm_R4) (T := gm_T4) (N := 35) rfl hGo (gm_good gm_k42) rfl rfl (gm_f _ gm_w5) (gm_f _ gm_w1101) (gm_f _ gm_w1103) (gm_f _ gm_s45) (by decide +kernel) (by decide) gd_43_56,
   (gs_ireti gd_43_59).sn, trivial⟩
set_option maxRecDepth 100000 in
set_option maxHeartbeats 4000000 in
theorem gm_o44 {G : (Nat → Prop) → State → Heap → Prop} (hGo : gx_Gok G) (l : Launch) : gx_all (gx_Sn l (gm_z G) (gm_cl, gm_tyl, G, Cond.code gm_y44 gm_c44 3 (some .int) :: gm_WS, gm_c44, gm_y44, 3, (some .int))) gm_b44 :=
  ⟨(gq_aload_n gd_44_0).sn,
   (gq_iload_n gd_44_1).sn,
   gs_callS (zs := gm_z G) rfl hGo (gm_good gm_k2) rfl (gm_f _ gm_w5) (gm_f _ gm_w1042) (gm_f _ gm_w1043) (by decide +kernel) (by decide) gd_44_2,
   (gq_if_ne gd_44_5 (by decide)).sn,
   (gq_iconst gd_44_8 (by decide)).sn,
   (gq_goto gd_44_9 (by decide)).sn,
   (gq_aload_n gd_44_12).sn,
   (gq_iload_n gd_44_13).sn,
   gs_callV (zs := gm_z G) (Cn := gm_R4) (T := gm_T4) (N := 35) rfl hGo (gm_good gm_k27) rfl rfl (gm_f _ gm_w5) (gm_f _ gm_w1053) (gm_f _ gm_w1055) (gm_f _ gm_s34) (by decide +kernel) (by decide) gd_44_14,
   (gq_if_eq gd_44_17 (by decide)).sn,
   (gq_iconst gd_44_20 (by decide)).sn,
   (gq_goto gd_44_21 (by decide)).sn,
   (gq_iconst gd_44_24 (by decide)).sn,
   (gs_puti (Cn := gm_R4) (T := gm_T4) (N := 35) rfl gm_in4c gm_t4 gm_ty4 gm_nm4 (by decide) (by decide +kernel) (gm_f _ gm_w861) rfl gd_44_25).sn,
   (gq_aload_n gd_44_28).sn,
   (gs_get (Cn := gm_R4) (T := gm_T4) (N := 35) rfl gm_in4c (by decide) (gm_f _ gm_w861) gd_44_29).sn,
   (gq_if_le gd_44_32 (by decide)).sn,
   (gq_iconst gd_44_35 (by decide)).sn,
   (gs_ireti gd_44_36).sn,
   (gq_aload_n gd_44_37).sn,
   gs_callV (zs := gm_z G) (Cn := gm_R4) (T := gm_T4) (N := 35) rfl hGo (gm_good gm_k33) rfl rfl (gm_f _ gm_w5) (gm_f _ gm_w1081) (gm_f _ gm_w1083) (gm_f _ gm_s40) (by decide +kernel) (by decide) gd_44_38,
   (gq_iconst gd_44_41 (by decide)).sn,
   (gq_istore_n gd_44_42).sn,
   (gq_iload_n gd_44_43).sn,
   (gq_aload_n gd_44_44).sn,
   (gs_get (Cn := gm_R4) (T := gm_T4) (N := 35) rfl gm_in4c (by decide) (gm_f _ gm_w865) gd_44_45).sn,
   (gq_icmp_gt gd_44_48 (by decide)).sn,
   (gq_aload_n gd_44_51).sn,
   (gq_iload_n gd_44_52).sn,
   (gq_iload_n gd_44_53).sn,
   gs_callV (zs := gm_z G) (Cn := gm_R4) (T := gm_T4) (N := 35) rfl hGo (gm_good gm_k42) rfl rfl (gm_f _ gm_w5) (gm_f _ gm_w1101) (gm_f _ gm_w1103) (gm_f _ gm_s45) (by decide +kernel) (by decide) gd_44_54,
   (gq_if_ge gd_44_57 (by decide)).sn,
   (gs_inc gd_44_60).sn,
   (gq_goto gd_44_63 (by decide)).sn,
   (gq_iload_n gd_44_66).sn,
   (gq_aload_n gd_44_67).sn,
   (gs_get (Cn := gm_R4) (T := gm_T4) (N := 35) rfl gm_in4c (by decide) (gm_f _ gm_w865) gd_44_68).sn,
   (gq_icmp_le gd_44_71 (by decide)).sn,
   (gq_iconst gd_44_74 (by decide)).sn,
   (gq_goto gd_44_75 (by decide)).sn,
   (gq_iload_n gd_44_78).sn,
   (gs_ireti gd_44_79).sn, trivial⟩
set_option maxRecDepth 100000 in
set_option maxHeartbeats 4000000 in
theorem gm_o45 {G : (Nat → Prop) → State → Heap → Prop} (hGo : gx_Gok G) (l : Launch) : gx_all (gx_Sn l (gm_z G) (gm_cl, gm_tyl, G, Cond.code gm_y45 gm_c45 1 (some .int) :: gm_WS, gm_c45, gm_y45, 1, (some .int))) gm_b45 :=
  ⟨(gq_aload_n gd_45_0).sn,
   (gq_iconst gd_45_1 (by decide)).sn,
   (gs_puti (Cn := gm_R4) (T := gm_T4) (N := 35) rfl gm_in4c gm_t4 gm_ty4 gm_nm4 (by decide) (by decide +kernel) (gm_f _ gm_w861) rfl gd_45_2).sn,
   (gq_aload_n gd_45_5).sn,
   (gs_get (Cn := gm_R4) (T := gm_T4) (N := 35) rfl gm_in4c (by decide) (gm_f _ gm_w891) gd_45_6).sn,
   (gs_ireti gd_45_9).sn, trivial⟩
set_option maxRecDepth 100000 in
set_option maxHeartbeats 4000000 in
theorem gm_o46 {G : (Nat → Prop) → State → Heap → Prop} (hGo : gx_Gok G) (l : Launch) : gx_all (gx_Sn l (gm_z G) (gm_cl, gm_tyl, G, Cond.code gm_y46 gm_c46 3 (some .int) :: gm_WS, gm_c46, gm_y46, 3, (some .int))) gm_b46 :=
  ⟨(gq_aload_n gd_46_0).sn,
   (gq_iload_n gd_46_1).sn,
   (gq_if_lt gd_46_2 (by decide)).sn,
   (gq_iload_n gd_46_5).sn,
   (gq_aload_n gd_46_6).sn,
   (gs_get (Cn := gm_R4) (T := gm_T4) (N := 35) rfl gm_in4c (by decide) (gm_f _ gm_w891) gd_46_7).sn,
   (gq_icmp_ge gd_46_10 (by decide)).sn,
   (gq_iload_n gd_46_13).sn,
   (gq_if_lt gd_46_14 (by decide)).sn,
   (gq_iload_n gd_46_17).sn,
   (gq_iconst gd_46_18 (by decide)).sn,
   (gq_icmp_le gd_46_19 (by decide)).sn,
   (gq_iconst gd_46_22 (by decide)).sn,
   (gq_goto gd_46_23 (by decide)).sn,
   (gq_iconst gd_46_26 (by decide)).sn,
   (gs_puti (Cn := gm_R4) (T := gm_T4) (N := 35) rfl gm_in4c gm_t4 gm_ty4 gm_nm4 (by decide) (by decide +kernel) (gm_f _ gm_w861) rfl gd_46_27).sn,
   (gq_aload_n gd_46_30).sn,
   (gs_get (Cn := gm_R4) (T := gm_T4) (N := 35) rfl gm_in4c (by decide) (gm_f _ gm_w861) gd_46_31).sn,
   (gq_if_le gd_46_34 (by decide)).sn,
   (gq_iconst gd_46_37 (by decide)).sn,
   (gs_ireti gd_46_38).sn,
   (gq_iload_n gd_46_39).sn,
   (gq_if_ne gd_46_40 (by decide)).sn,
   (gq_aload_n gd_46_43).sn,
   (gs_get (Cn := gm_R4) (T := gm_T4) (N := 35) rfl gm_in4c (by decide) (gm_f _ gm_w892) gd_46_44).sn,
   (gq_iload_n gd_46_47).sn,
   (gs_iald rfl gd_46_48).sn,
   (gq_goto gd_46_49 (by decide)).sn,
   (gq_aload_n gd_46_52).sn,
   (gs_get (Cn := gm_R4) (T := gm_T4) (N := 35) rfl gm_in4c (by decide) (gm_f _ gm_w893) gd_46_53).sn,
   (gq_iload_n gd_46_56).sn,
   (gs_iald rfl gd_46_57).sn,
   (gs_ireti gd_46_58).sn, trivial⟩
set_option maxRecDepth 100000 in
set_option maxHeartbeats 4000000 in
theorem gm_o47 {G : (Nat → Prop) → State → Heap → Prop} (hGo : gx_Gok G) (l : Launch) : gx_all (gx_Sn l (gm_z G) (gm_cl, gm_tyl, G, Cond.code gm_y47 gm_c47 1 (some .int) :: gm_WS, gm_c47, gm_y47, 1, (some .int))) gm_b47 :=
  ⟨(gq_aload_n gd_47_0).sn,
   (gq_iconst gd_47_1 (by decide)).sn,
   (gs_puti (Cn := gm_R4) (T := gm_T4) (N := 35) rfl gm_in4c gm_t4 gm_ty4 gm_nm4 (by decide) (by decide +kernel) (gm_f _ gm_w861) rfl gd_47_2).sn,
   (gq_aload_n gd_47_5).sn,
   (gs_get (Cn := gm_R4) (T := gm_T4) (N := 35) rfl gm_in4c (by decide) (gm_f _ gm_w894) gd_47_6).sn,
   (gs_ireti gd_47_9).sn, trivial⟩
set_option maxRecDepth 100000 in
set_option maxHeartbeats 4000000 in
theorem gm_o48 {G : (Nat → Prop) → State → Heap → Prop} (hGo : gx_Gok G) (l : Launch) : gx_all (gx_Sn l (gm_z G) (gm_cl, gm_tyl, G, Cond.code gm_y48 gm_c48 1 (some .int) :: gm_WS, gm_c48, gm_y48, 1, (some .int))) gm_b48 :=
  ⟨(gq_aload_n gd_48_0).sn,
   (gq_iconst gd_48_1 (by decide)).sn,
   (gs_puti (Cn := gm_R4) (T := gm_T4) (N := 35) rfl gm_in4c gm_t4 gm_ty4 gm_nm4 (by decide) (by decide +kernel) (gm_f _ gm_w861) rfl gd_48_2).sn,
   (gq_aload_n gd_48_5).sn,
   (gs_get (Cn := gm_R4) (T := gm_T4) (N := 35) rfl gm_in4c (by decide) (gm_f _ gm_w895) gd_48_6).sn,
   (gs_ireti gd_48_9).sn, trivial⟩
end
section
/-! The model's methods: bytes and characters, type, text, clear, drop, shown, what is asked of the latest match. -/
theorem gm_u_at (S : Nat → Nat → Int32) (k j : Nat) (v : Int32) (k' j' : Nat) : gm_u S k j v k' j' = if k' = k ∧ j' = j then v else S k' j' := by
  unfold gm_u
  cases h : Nat.beq k' k with
  | true =>
    have e : k' = k := Nat.eq_of_beq_eq_true h
    subst e
    by_cases hj : j' = j
    · simp [upd, hj]
    · simp [upd, hj]
  | false =>
    have e : k' ≠ k := Nat.ne_of_beq_eq_false h
    simp [e]
theorem gm_u_row (S : Nat → Nat → Int32) {k k' : Nat} (j : Nat) (v : Int32) (h : k' ≠ k) : gm_u S k j v k' = S k' := by
  funext j'
  rw [gm_u_at]
  simp [h]
/-- byte n of a number -/
def gp_cb (x : Int32) (n : Nat) : Nat := x.toBitVec.toNat / 2 ^ (8 * n) % 256
theorem gp_cb_lt (x : Int32) (n : Nat) : gp_cb x n < 256 := Nat.mod_lt _ (by decide)
theorem gp_8n {n : Nat} (hn : n < 4) : ((8 * nI n) &&& 31 : Int32) = nI (8 * n) := by
  have h : n = 0 ∨ n = 1 ∨ n = 2 ∨ n = 3 := by omega
  rcases h with rfl | rfl | rfl | rfl <;> decide +kernel
theorem gp_sshr (x : Int32) {n : Nat} (hn : n < 4) : (x >>> (nI (8 * n))).toBitVec = x.toBitVec.sshiftRight (8 * n) := by
  have h : n = 0 ∨ n = 1 ∨ n = 2 ∨ n = 3 := by omega
  rcases h with rfl | rfl | rfl | rfl <;> rfl
theorem gp_byte (x : Int32) {n : Nat} (hn : n < 4) : ((x >>> ((8 * nI n) &&& 31)) &&& 255 : Int32) = nI (gp_cb x n) := by
  rw [gp_8n hn, pk_and _ 8 (by decide), gp_sshr x hn]
  congr 1
  unfold gp_cb
  refine Nat.eq_of_testBit_eq fun i => ?_
  rw [show (2 : Nat) ^ 8 = 256 by decide]
  rw [show (256 : Nat) = 2 ^ 8 by decide, Nat.testBit_mod_two_pow, Nat.testBit_mod_two_pow, Nat.testBit_div_two_pow]
  by_cases hi : i < 8
  · simp only [hi, decide_true, Bool.true_and]
    rw [BitVec.testBit_toNat, BitVec.testBit_toNat, BitVec.getLsbD_sshiftRight]
    have h1 : 8 * n + i < 32 := by omega
    have h2 : i < 32 := by omega
    simp [h1, Nat.add_comm, h2, show ¬ 32 ≤ i by omega]
    exact fun h => absurd h (by omega)
  · simp [hi]
/-- the characters of four: none where one isn't 32 .. 126 -/
def gp_go (x : Int32) : Nat → Nat → Option (List Nat)
  | 0, _ => some []
  | f + 1, n => if gp_cb x n = 0 then some [] else if gp_cb x n < 32 ∨ 126 < gp_cb x n then none else (gp_go x f (n + 1)).map (gp_cb x n :: ·)
def gp_cs (x : Int32) : Option (List Nat) := gp_go x 4 0
theorem gp_go_len (x : Int32) : ∀ (f n : Nat) (l : List Nat), gp_go x f n = some l → l.length ≤ f ∧ (∀ i c, l[i]? = some c → c = gp_cb x (n + i) ∧ 32 ≤ c ∧ c ≤ 126)
  | 0, n, l, h => by
    cases h
    exact ⟨Nat.le_refl _, fun i c hc => by simp at hc⟩
  | f + 1, n, l, h => by
    unfold gp_go at h
    split at h
    · cases h
      exact ⟨Nat.zero_le _, fun i c hc => by simp at hc⟩
    · rename_i h0
      split at h
      · cases h
      · rename_i h1
        cases hg : gp_go x f (n + 1) with
        | none => rw [hg] at h; cases h
        | some r =>
          rw [hg] at h
          cases h
          obtain ⟨g1, g2⟩ := gp_go_len x f (n + 1) r hg
          refine ⟨by simpa using g1, fun i c hc => ?_⟩
          cases i with
          | zero =>
            have e : gp_cb x n = c := by simpa using hc
            exact ⟨e.symm, by omega⟩
          | succ i =>
            have e : r[i]? = some c := by simpa using hc
            obtain ⟨q1, q2⟩ := g2 i c e
            exact ⟨by rw [q1]; congr 1; omega, q2⟩
theorem gp_cs_len {x : Int32} {l : List Nat} (h : gp_cs x = some l) : l.length ≤ 4 := (gp_go_len x 4 0 l h).1
theorem gp_cs_at {x : Int32} {l : List Nat} (h : gp_cs x = some l) {i c : Nat} (hc : l[i]? = some c) : c = gp_cb x i ∧ 32 ≤ c ∧ c ≤ 126 := by
  have h1 := (gp_go_len x 4 0 l h).2 i c hc
  rwa [Nat.zero_add] at h1
section GMA
variable {d bc bs : Nat} {Q : gx_R → Prop} {S : Nat → Nat → Int32}
theorem gm_charsL (x : Int32) : ∀ (f n : Nat) (o2 : Option Value), n + f = 4 → Q (.inl (some (.int (match gp_go x f n with | none => -1 | some l => nI (n + l.length)))), gm_h S) →
    gx_X gm_P (d + 1) 3 (2, [some (.int x), some (.int (nI n)), o2], [], gm_h S, bc, bs) Q
  | 0, n, o2, hn, hq => by
    have e : n = 4 := by omega
    subst e
    refine gb_charactersOf_2 ⟨fun _ => gb_charactersOf_51 hq, fun h => absurd h (by decide)⟩
  | f + 1, n, o2, hn, hq => by
    have hlt : n < 4 := by omega
    have hb := gp_byte x hlt
    have hc := gp_cb_lt x n
    have h4 : nI n < 4 := nI_lt (b := 4) hlt (by decide)
    unfold gp_go at hq
    refine gb_charactersOf_2 ⟨fun h => absurd h4 h, fun _ => ⟨fun h0 => gb_charactersOf_51 ?_, fun h0 => ⟨fun h1 => gb_charactersOf_43 ?_, fun h1 => ⟨fun h2 => ?_, fun h2 => gb_charactersOf_43 ?_⟩⟩⟩⟩
    · rw [hb] at h0
      have e0 : gp_cb x n = 0 := (nI_eq (b := 0) (by omega) (by decide)).mp h0
      simpa [e0] using hq
    · rw [hb] at h0 h1
      have e0 : ¬ gp_cb x n = 0 := fun z => h0 (by rw [z]; rfl)
      have e1 : gp_cb x n < 32 := (nI_ltI (b := 32) (by omega) (by decide)).mp h1
      simpa [e0, e1] using hq
    · rw [hb] at h0 h1 h2
      have e0 : ¬ gp_cb x n = 0 := fun z => h0 (by rw [z]; rfl)
      have e1 : ¬ gp_cb x n < 32 := fun z => h1 (nI_lt (b := 32) z (by decide))
      have e2 : ¬ 126 < gp_cb x n := fun z => h2 (nI_lt (a := 126) z (by omega))
      have e3 : nI n + Int32.ofInt 1 = nI (n + 1) := nI_1 n
      rw [e3]
      refine gm_charsL x f (n + 1) _ (by omega) ?_
      simp only [e0, if_false, e1, e2, or_self] at hq
      cases hg : gp_go x f (n + 1) with
      | none => rw [hg] at hq; exact hq
      | some l =>
        rw [hg] at hq
        simp only [Option.map_some, List.length_cons] at hq
        rw [show n + (l.length + 1) = n + 1 + l.length by omega] at hq
        exact hq
    · rw [hb] at h0 h1 h2
      have e0 : ¬ gp_cb x n = 0 := fun z => h0 (by rw [z]; rfl)
      have e2 : 126 < gp_cb x n := (nI_ltI (a := 126) (by decide) (by omega)).mp h2
      simpa [e0, e2] using hq
/-- charactersOf: how many characters, -1 where one isn't allowed -/
theorem gm_chars {x : Int32} {o1 o2 : Option Value} (hq : Q (.inl (some (.int (match gp_cs x with | none => -1 | some l => nI l.length))), gm_h S)) : gx_X gm_P (d + 1) 3 (0, [some (.int x), o1, o2], [], gm_h S, bc, bs) Q := by
  refine gb_charactersOf_0 (gm_charsL x 4 0 o2 rfl ?_)
  simp only [Nat.zero_add]
  exact hq
/-- isRule -/
theorem gm_isRule {x : Int32} (hq : Q (.inl (some (.int (if ¬ x < 0 ∧ x < 4 then 1 else 0))), gm_h S)) : gx_X gm_P (d + 1) 2 (0, [some (.int x)], [], gm_h S, bc, bs) Q := by
  refine gb_isRule_0 ⟨fun h => gb_isRule_13 (gb_isRule_14 ⟨rfl, ?_⟩), fun h => ⟨fun h1 => gb_isRule_13 (gb_isRule_14 ⟨rfl, ?_⟩), fun h1 => gb_isRule_14 ⟨rfl, ?_⟩⟩⟩
  · simpa [h] using hq
  · simpa [h, h1] using hq
  · simpa [h, h1] using hq
end GMA
end
section
/-! The model: type, text, drop. Written by wip/tools/modA.py. -/
/-- all alike but the flag, the count in slot s, and the row c -/
def gm_eqx (c s : Nat) (S S' : Nat → Nat → Int32) : Prop := (∀ k j, k ≠ 0 → k ≠ c → S' k j = S k j) ∧ ∀ j, j ≠ 0 → j ≠ s → S' 0 j = S 0 j
section GMB
variable {d bc bs : Nat} {Q : gx_R → Prop} {S : Nat → Nat → Int32}
/-- the turns of the loop that puts characters -/
theorem gm_typeL {x : Int32} {l : List Nat} {n : Nat} {S0 : Nat → Nat → Int32} (hcs : gp_cs x = some l) (hle : n + l.length ≤ 20)
    (hq : ∀ S', gm_eqx 1 2 S0 S' → S' 0 0 = S0 0 0 → S' 0 2 = nI (n + l.length) → (∀ i, i < n → S' 1 i = S0 1 i) → (∀ i c, l[i]? = some c → S' 1 (n + i) = nI c) → Q (.inl (some (.int 1)), gm_h S')) :
    ∀ (f j : Nat) (S : Nat → Nat → Int32), j + f = l.length → gm_eqx 1 2 S0 S → S 0 0 = S0 0 0 → S 0 2 = nI (n + j) → (∀ i, i < n → S 1 i = S0 1 i) → (∀ i c, i < j → l[i]? = some c → S 1 (n + i) = nI c) →
    gx_X gm_P (d + 1) 4 (37, [some (.ref 0), some (.int x), some (.int (nI l.length)), some (.int (nI j))], [], gm_h S, bc, bs) Q
  | 0, j, S, hj, he, h0, hs, hlo, hhi => by
    have hl4 := gp_cs_len hcs
    refine gb_type_37 ⟨fun _ => hq S he h0 (by rw [hs, show n + j = n + l.length by omega]) hlo (fun i c hc => hhi i c ?_ hc), fun h => absurd h (nI_nlt (by omega) (by omega))⟩
    have := (List.getElem?_eq_some_iff.mp hc).1
    omega
  | f + 1, j, S, hj, he, h0, hs, hlo, hhi => by
    have hl4 := gp_cs_len hcs
    refine gb_type_37 ⟨fun h => absurd (nI_lt (by omega) (by omega)) h, fun _ => ⟨?_, ?_⟩⟩
    · rw [hs]; exact vp_in_nI (by omega) (by decide)
    · rw [hs, nI_clamp (by omega), gp_byte x (by omega), show nI j + Int32.ofInt 1 = nI (j + 1) from nI_1 j, show nI (n + j) + 1 = nI (n + (j + 1)) from nI_1 (n + j)]
      refine gm_typeL hcs hle hq f (j + 1) _ (by omega) ⟨fun k i hk0 hkc => ?_, fun i hi0 his => ?_⟩ ?_ ?_ (fun i hi => ?_) (fun i c hi hc => ?_)
      · rw [gm_u_at, gm_u_at, if_neg (by omega), if_neg (by omega)]; exact he.1 k i hk0 hkc
      · rw [gm_u_at, gm_u_at, if_neg (by omega), if_neg (by omega)]; exact he.2 i hi0 his
      · rw [gm_u_at, gm_u_at, if_neg (by omega), if_neg (by omega)]; exact h0
      · rw [gm_u_at, if_pos ⟨rfl, rfl⟩]
      · rw [gm_u_at, gm_u_at, if_neg (by omega), if_neg (by omega)]; exact hlo i hi
      · rw [gm_u_at, gm_u_at, if_neg (by omega)]
        by_cases hij : i = j
        · subst hij
          rw [if_pos ⟨rfl, rfl⟩, (gp_cs_at hcs hc).1]
        · rw [if_neg (by omega)]
          exact hhi i c (by omega) hc
/-- type -/
theorem gm_type {x : Int32} {n : Nat} {o2 o3 : Option Value} (hn : S 0 2 = nI n) (hle : n ≤ 20)
    (hq : match gp_cs x with
      | none => Q (.inl (some (.int 0)), gm_h (gm_u S 0 0 1))
      | some l => (20 < n + l.length → Q (.inl (some (.int 0)), gm_h (gm_u S 0 0 0))) ∧ (n + l.length ≤ 20 → ∀ S', gm_eqx 1 2 S S' → S' 0 0 = 0 → S' 0 2 = nI (n + l.length) → (∀ i, i < n → S' 1 i = S 1 i) → (∀ i c, l[i]? = some c → S' 1 (n + i) = nI c) → Q (.inl (some (.int 1)), gm_h S'))) :
    gx_X gm_P (d + 2) 4 (0, [some (.ref 0), some (.int x), o2, o3], [], gm_h S, bc, bs) Q := by
  refine gb_type_0 (gm_chars ?_)
  cases hcs : gp_cs x with
  | none =>
    rw [hcs] at hq
    refine gb_type_4 ⟨fun h => absurd (by decide) h, fun _ => gb_type_15 ⟨fun _ => gb_type_33 hq, fun h => absurd (by decide) h⟩⟩
  | some l =>
    rw [hcs] at hq
    have hl4 := gp_cs_len hcs
    have hge : ¬ nI l.length < 0 := nI_pos (by omega)
    refine gb_type_4 ⟨fun _ => gb_type_15 ⟨fun h => absurd h hge, fun _ => ⟨fun h => ?_, fun h => gb_type_33 (hq.1 ?_)⟩⟩, fun h => absurd h hge⟩
    · rw [hn, nI_add] at h
      have h2 : n + l.length ≤ 20 := Nat.le_of_not_lt (fun z => h (nI_lt (a := 20) z (by omega)))
      refine gm_typeL (S0 := gm_u S 0 0 0) hcs h2 (fun S' g1 g2 g3 g4 g5 => hq.2 h2 S' ⟨fun k j hk0 hkc => ?_, fun j hj0 hjs => ?_⟩ ?_ g3 (fun i hi => ?_) g5) l.length 0 _ (by omega) ⟨fun _ _ _ _ => rfl, fun _ _ _ => rfl⟩ rfl ?_ (fun _ _ => rfl) (fun i c hi _ => absurd hi (Nat.not_lt_zero _))
      · rw [g1.1 k j hk0 hkc, gm_u_at, if_neg (by omega)]
      · rw [g1.2 j hj0 hjs, gm_u_at, if_neg (by omega)]
      · rw [g2, gm_u_at, if_pos ⟨rfl, rfl⟩]
      · rw [g4 i hi, gm_u_at, if_neg (by omega)]
      · rw [gm_u_at, if_neg (by omega)]; exact hn
    · rw [hn, nI_add] at h
      exact (nI_ltI (a := 20) (by decide) (by omega)).mp h
/-- the turns of the loop that puts characters -/
theorem gm_textL {x : Int32} {l : List Nat} {n : Nat} {S0 : Nat → Nat → Int32} (hcs : gp_cs x = some l) (hle : n + l.length ≤ 9)
    (hq : ∀ S', gm_eqx 2 4 S0 S' → S' 0 0 = S0 0 0 → S' 0 4 = nI (n + l.length) → (∀ i, i < n → S' 2 i = S0 2 i) → (∀ i c, l[i]? = some c → S' 2 (n + i) = nI c) → Q (.inl (some (.int 1)), gm_h S')) :
    ∀ (f j : Nat) (S : Nat → Nat → Int32), j + f = l.length → gm_eqx 2 4 S0 S → S 0 0 = S0 0 0 → S 0 4 = nI (n + j) → (∀ i, i < n → S 2 i = S0 2 i) → (∀ i c, i < j → l[i]? = some c → S 2 (n + i) = nI c) →
    gx_X gm_P (d + 1) 5 (37, [some (.ref 0), some (.int x), some (.int (nI l.length)), some (.int (nI j))], [], gm_h S, bc, bs) Q
  | 0, j, S, hj, he, h0, hs, hlo, hhi => by
    have hl4 := gp_cs_len hcs
    refine gb_text_37 ⟨fun _ => hq S he h0 (by rw [hs, show n + j = n + l.length by omega]) hlo (fun i c hc => hhi i c ?_ hc), fun h => absurd h (nI_nlt (by omega) (by omega))⟩
    have := (List.getElem?_eq_some_iff.mp hc).1
    omega
  | f + 1, j, S, hj, he, h0, hs, hlo, hhi => by
    have hl4 := gp_cs_len hcs
    refine gb_text_37 ⟨fun h => absurd (nI_lt (by omega) (by omega)) h, fun _ => ⟨?_, ?_⟩⟩
    · rw [hs]; exact vp_in_nI (by omega) (by decide)
    · rw [hs, nI_clamp (by omega), gp_byte x (by omega), show nI j + Int32.ofInt 1 = nI (j + 1) from nI_1 j, show nI (n + j) + 1 = nI (n + (j + 1)) from nI_1 (n + j)]
      refine gm_textL hcs hle hq f (j + 1) _ (by omega) ⟨fun k i hk0 hkc => ?_, fun i hi0 his => ?_⟩ ?_ ?_ (fun i hi => ?_) (fun i c hi hc => ?_)
      · rw [gm_u_at, gm_u_at, if_neg (by omega), if_neg (by omega)]; exact he.1 k i hk0 hkc
      · rw [gm_u_at, gm_u_at, if_neg (by omega), if_neg (by omega)]; exact he.2 i hi0 his
      · rw [gm_u_at, gm_u_at, if_neg (by omega), if_neg (by omega)]; exact h0
      · rw [gm_u_at, if_pos ⟨rfl, rfl⟩]
      · rw [gm_u_at, gm_u_at, if_neg (by omega), if_neg (by omega)]; exact hlo i hi
      · rw [gm_u_at, gm_u_at, if_neg (by omega)]
        by_cases hij : i = j
        · subst hij
          rw [if_pos ⟨rfl, rfl⟩, (gp_cs_at hcs hc).1]
        · rw [if_neg (by omega)]
          exact hhi i c (by omega) hc
/-- text -/
theorem gm_text {x : Int32} {n : Nat} {o2 o3 : Option Value} (hn : S 0 4 = nI n) (hle : n ≤ 9)
    (hq : match gp_cs x with
      | none => Q (.inl (some (.int 0)), gm_h (gm_u S 0 0 1))
      | some l => (9 < n + l.length → Q (.inl (some (.int 0)), gm_h (gm_u S 0 0 0))) ∧ (n + l.length ≤ 9 → ∀ S', gm_eqx 2 4 S S' → S' 0 0 = 0 → S' 0 4 = nI (n + l.length) → (∀ i, i < n → S' 2 i = S 2 i) → (∀ i c, l[i]? = some c → S' 2 (n + i) = nI c) → Q (.inl (some (.int 1)), gm_h S'))) :
    gx_X gm_P (d + 2) 5 (0, [some (.ref 0), some (.int x), o2, o3], [], gm_h S, bc, bs) Q := by
  refine gb_text_0 (gm_chars ?_)
  cases hcs : gp_cs x with
  | none =>
    rw [hcs] at hq
    refine gb_text_4 ⟨fun h => absurd (by decide) h, fun _ => gb_text_15 ⟨fun _ => gb_text_33 hq, fun h => absurd (by decide) h⟩⟩
  | some l =>
    rw [hcs] at hq
    have hl4 := gp_cs_len hcs
    have hge : ¬ nI l.length < 0 := nI_pos (by omega)
    refine gb_text_4 ⟨fun _ => gb_text_15 ⟨fun h => absurd h hge, fun _ => ⟨fun h => ?_, fun h => gb_text_33 (hq.1 ?_)⟩⟩, fun h => absurd h hge⟩
    · rw [hn, nI_add] at h
      have h2 : n + l.length ≤ 9 := Nat.le_of_not_lt (fun z => h (nI_lt (a := 9) z (by omega)))
      refine gm_textL (S0 := gm_u S 0 0 0) hcs h2 (fun S' g1 g2 g3 g4 g5 => hq.2 h2 S' ⟨fun k j hk0 hkc => ?_, fun j hj0 hjs => ?_⟩ ?_ g3 (fun i hi => ?_) g5) l.length 0 _ (by omega) ⟨fun _ _ _ _ => rfl, fun _ _ _ => rfl⟩ rfl ?_ (fun _ _ => rfl) (fun i c hi _ => absurd hi (Nat.not_lt_zero _))
      · rw [g1.1 k j hk0 hkc, gm_u_at, if_neg (by omega)]
      · rw [g1.2 j hj0 hjs, gm_u_at, if_neg (by omega)]
      · rw [g2, gm_u_at, if_pos ⟨rfl, rfl⟩]
      · rw [g4 i hi, gm_u_at, if_neg (by omega)]
      · rw [gm_u_at, if_neg (by omega)]; exact hn
    · rw [hn, nI_add] at h
      exact (nI_ltI (a := 9) (by decide) (by omega)).mp h
theorem gp_in4 {x : Int32} (h : ¬ x < 0 ∧ x < 4) : vp_in x 4 := by
  obtain ⟨j, hj, rfl⟩ := nI_of h.1
  exact vp_in_nI ((nI_ltI (b := 4) hj (by decide)).mp h.2) (by decide)
/-- drop -/
theorem gm_drop {x : Int32} (hq : if ¬ x < 0 ∧ x < 4 then (if S 3 x.toNatClampNeg = 0 then Q (.inl (some (.int 0)), gm_h (gm_u S 0 0 0)) else Q (.inl (some (.int 1)), gm_h (gm_u (gm_u S 0 0 0) 3 x.toNatClampNeg 0))) else Q (.inl (some (.int 0)), gm_h (gm_u S 0 0 1))) :
    gx_X gm_P (d + 2) 20 (0, [some (.ref 0), some (.int x)], [], gm_h S, bc, bs) Q := by
  refine gb_drop_0 (gm_isRule ?_)
  by_cases hr : ¬ x < 0 ∧ x < 4
  · rw [if_pos hr] at hq ⊢
    have hin : vp_in x 4 := gp_in4 hr
    refine gb_drop_5 ⟨fun h => absurd h (by decide), fun _ => gb_drop_13 ⟨fun h => absurd h (by decide), fun _ => ⟨hin, fun h => ⟨hin, ?_⟩, fun h => gb_drop_32 ?_⟩⟩⟩
    · rwa [if_neg h] at hq
    · rwa [if_pos h] at hq
  · rw [if_neg hr] at hq ⊢
    exact gb_drop_5 ⟨fun _ => gb_drop_13 ⟨fun _ => gb_drop_32 hq, fun h => absurd (by decide) h⟩, fun h => absurd rfl h⟩
end GMB
end
