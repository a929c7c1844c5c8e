-- ===== PART A: goes FIRST, ahead of the names: the tables' words, and 'selects' of the private methods out of them =====
/-- a private method of a class that the tables say can be made, by its rows of tables_1 -/
def lw_okq (q : MethodName × Nat) : Prop := (q.1.cls ≠ "java/lang/invoke/MethodHandle" ∧ q.1.cls ≠ "java/lang/invoke/VarHandle") ∧ Cond.instantiable q.1.cls q.2 ∈ tables_1 ∧ Cond.privateMethod q.1 ∈ tables_1 ∧ Cond.instanceMethod q.1 ∈ tables_1
theorem lw_p0 : lw_okq (⟨"java/lang/Throwable", "fillInStackTrace", "(I)Ljava/lang/Throwable;"⟩, 6) := ⟨⟨by decide +kernel, by decide +kernel⟩, List.mem_of_getElem? (i := 508) (by decide +kernel), List.mem_of_getElem? (i := 506) (by decide +kernel), List.mem_of_getElem? (i := 507) (by decide +kernel)⟩
theorem lw_p1 : lw_okq (⟨"DecisionChain$Parser", "parseHead", "()Z"⟩, 7) := ⟨⟨by decide +kernel, by decide +kernel⟩, List.mem_of_getElem? (i := 212) (by decide +kernel), List.mem_of_getElem? (i := 576) (by decide +kernel), List.mem_of_getElem? (i := 577) (by decide +kernel)⟩
theorem lw_p2 : lw_okq (⟨"DecisionChain$Parser", "takeWord", "(Ljava/lang/String;)Z"⟩, 7) := ⟨⟨by decide +kernel, by decide +kernel⟩, List.mem_of_getElem? (i := 212) (by decide +kernel), List.mem_of_getElem? (i := 581) (by decide +kernel), List.mem_of_getElem? (i := 582) (by decide +kernel)⟩
theorem lw_p3 : lw_okq (⟨"DecisionChain$Parser", "fail", "(I)Z"⟩, 7) := ⟨⟨by decide +kernel, by decide +kernel⟩, List.mem_of_getElem? (i := 212) (by decide +kernel), List.mem_of_getElem? (i := 637) (by decide +kernel), List.mem_of_getElem? (i := 638) (by decide +kernel)⟩
theorem lw_p4 : lw_okq (⟨"DecisionChain$Parser", "takeNumber", "(II)Z"⟩, 7) := ⟨⟨by decide +kernel, by decide +kernel⟩, List.mem_of_getElem? (i := 212) (by decide +kernel), List.mem_of_getElem? (i := 643) (by decide +kernel), List.mem_of_getElem? (i := 644) (by decide +kernel)⟩
theorem lw_p5 : lw_okq (⟨"DecisionChain$Parser", "seeNumber", "(II)Z"⟩, 7) := ⟨⟨by decide +kernel, by decide +kernel⟩, List.mem_of_getElem? (i := 212) (by decide +kernel), List.mem_of_getElem? (i := 647) (by decide +kernel), List.mem_of_getElem? (i := 648) (by decide +kernel)⟩
theorem lw_p6 : lw_okq (⟨"DecisionChain$Parser", "parseLine", "()Z"⟩, 7) := ⟨⟨by decide +kernel, by decide +kernel⟩, List.mem_of_getElem? (i := 212) (by decide +kernel), List.mem_of_getElem? (i := 653) (by decide +kernel), List.mem_of_getElem? (i := 654) (by decide +kernel)⟩
theorem lw_p7 : lw_okq (⟨"DecisionChain$Parser", "parseBudget", "()Z"⟩, 7) := ⟨⟨by decide +kernel, by decide +kernel⟩, List.mem_of_getElem? (i := 212) (by decide +kernel), List.mem_of_getElem? (i := 658) (by decide +kernel), List.mem_of_getElem? (i := 659) (by decide +kernel)⟩
theorem lw_p8 : lw_okq (⟨"DecisionChain$Parser", "parseAct", "()Z"⟩, 7) := ⟨⟨by decide +kernel, by decide +kernel⟩, List.mem_of_getElem? (i := 212) (by decide +kernel), List.mem_of_getElem? (i := 663) (by decide +kernel), List.mem_of_getElem? (i := 664) (by decide +kernel)⟩
theorem lw_p9 : lw_okq (⟨"DecisionChain$Parser", "seeState", "()Z"⟩, 7) := ⟨⟨by decide +kernel, by decide +kernel⟩, List.mem_of_getElem? (i := 212) (by decide +kernel), List.mem_of_getElem? (i := 667) (by decide +kernel), List.mem_of_getElem? (i := 668) (by decide +kernel)⟩
theorem lw_p10 : lw_okq (⟨"DecisionChain$Parser", "parseGain", "(I)Z"⟩, 7) := ⟨⟨by decide +kernel, by decide +kernel⟩, List.mem_of_getElem? (i := 212) (by decide +kernel), List.mem_of_getElem? (i := 672) (by decide +kernel), List.mem_of_getElem? (i := 673) (by decide +kernel)⟩
theorem lw_p11 : lw_okq (⟨"DecisionChain$Parser", "parseUses", "(I)Z"⟩, 7) := ⟨⟨by decide +kernel, by decide +kernel⟩, List.mem_of_getElem? (i := 212) (by decide +kernel), List.mem_of_getElem? (i := 676) (by decide +kernel), List.mem_of_getElem? (i := 677) (by decide +kernel)⟩
theorem lw_p12 : lw_okq (⟨"DecisionChain$Parser", "parsePercents", "(I)Z"⟩, 7) := ⟨⟨by decide +kernel, by decide +kernel⟩, List.mem_of_getElem? (i := 212) (by decide +kernel), List.mem_of_getElem? (i := 685) (by decide +kernel), List.mem_of_getElem? (i := 686) (by decide +kernel)⟩
theorem lw_p13 : lw_okq (⟨"DecisionChain$Parser", "endLine", "(I)Z"⟩, 7) := ⟨⟨by decide +kernel, by decide +kernel⟩, List.mem_of_getElem? (i := 212) (by decide +kernel), List.mem_of_getElem? (i := 698) (by decide +kernel), List.mem_of_getElem? (i := 699) (by decide +kernel)⟩
theorem lw_p14 : lw_okq (⟨"DecisionChain$Parser", "parseRule", "()Z"⟩, 7) := ⟨⟨by decide +kernel, by decide +kernel⟩, List.mem_of_getElem? (i := 212) (by decide +kernel), List.mem_of_getElem? (i := 703) (by decide +kernel), List.mem_of_getElem? (i := 704) (by decide +kernel)⟩
theorem lw_p15 : lw_okq (⟨"DecisionChain$Parser", "parseWeights", "(I)Z"⟩, 7) := ⟨⟨by decide +kernel, by decide +kernel⟩, List.mem_of_getElem? (i := 212) (by decide +kernel), List.mem_of_getElem? (i := 707) (by decide +kernel), List.mem_of_getElem? (i := 708) (by decide +kernel)⟩
def lw_privs_1 : List (MethodName × Nat) := [(⟨"java/lang/Throwable", "fillInStackTrace", "(I)Ljava/lang/Throwable;"⟩, 6), (⟨"DecisionChain$Parser", "parseHead", "()Z"⟩, 7), (⟨"DecisionChain$Parser", "takeWord", "(Ljava/lang/String;)Z"⟩, 7), (⟨"DecisionChain$Parser", "fail", "(I)Z"⟩, 7), (⟨"DecisionChain$Parser", "takeNumber", "(II)Z"⟩, 7), (⟨"DecisionChain$Parser", "seeNumber", "(II)Z"⟩, 7), (⟨"DecisionChain$Parser", "parseLine", "()Z"⟩, 7), (⟨"DecisionChain$Parser", "parseBudget", "()Z"⟩, 7), (⟨"DecisionChain$Parser", "parseAct", "()Z"⟩, 7), (⟨"DecisionChain$Parser", "seeState", "()Z"⟩, 7), (⟨"DecisionChain$Parser", "parseGain", "(I)Z"⟩, 7), (⟨"DecisionChain$Parser", "parseUses", "(I)Z"⟩, 7), (⟨"DecisionChain$Parser", "parsePercents", "(I)Z"⟩, 7), (⟨"DecisionChain$Parser", "endLine", "(I)Z"⟩, 7), (⟨"DecisionChain$Parser", "parseRule", "()Z"⟩, 7), (⟨"DecisionChain$Parser", "parseWeights", "(I)Z"⟩, 7)]
theorem lw_r1 : ∀ q ∈ lw_privs_1, lw_okq q := List.forall_mem_cons.mpr ⟨lw_p0, List.forall_mem_cons.mpr ⟨lw_p1, List.forall_mem_cons.mpr ⟨lw_p2, List.forall_mem_cons.mpr ⟨lw_p3, List.forall_mem_cons.mpr ⟨lw_p4, List.forall_mem_cons.mpr ⟨lw_p5, List.forall_mem_cons.mpr ⟨lw_p6, List.forall_mem_cons.mpr ⟨lw_p7, List.forall_mem_cons.mpr ⟨lw_p8, List.forall_mem_cons.mpr ⟨lw_p9, List.forall_mem_cons.mpr ⟨lw_p10, List.forall_mem_cons.mpr ⟨lw_p11, List.forall_mem_cons.mpr ⟨lw_p12, List.forall_mem_cons.mpr ⟨lw_p13, List.forall_mem_cons.mpr ⟨lw_p14, List.forall_mem_cons.mpr ⟨lw_p15, fun _ h => absurd h List.not_mem_nil⟩⟩⟩⟩⟩⟩⟩⟩⟩⟩⟩⟩⟩⟩⟩⟩
theorem lw_p16 : lw_okq (⟨"DecisionChain$Parser", "parseStart", "()Z"⟩, 7) := ⟨⟨by decide +kernel, by decide +kernel⟩, List.mem_of_getElem? (i := 212) (by decide +kernel), List.mem_of_getElem? (i := 711) (by decide +kernel), List.mem_of_getElem? (i := 712) (by decide +kernel)⟩
theorem lw_p17 : lw_okq (⟨"DecisionChain$Parser", "checkStates", "()Z"⟩, 7) := ⟨⟨by decide +kernel, by decide +kernel⟩, List.mem_of_getElem? (i := 212) (by decide +kernel), List.mem_of_getElem? (i := 716) (by decide +kernel), List.mem_of_getElem? (i := 717) (by decide +kernel)⟩
theorem lw_p18 : lw_okq (⟨"DecisionChain", "needChain", "()V"⟩, 12) := ⟨⟨by decide +kernel, by decide +kernel⟩, List.mem_of_getElem? (i := 28) (by decide +kernel), List.mem_of_getElem? (i := 772) (by decide +kernel), List.mem_of_getElem? (i := 773) (by decide +kernel)⟩
theorem lw_p19 : lw_okq (⟨"DecisionChain", "needState", "(I)V"⟩, 12) := ⟨⟨by decide +kernel, by decide +kernel⟩, List.mem_of_getElem? (i := 28) (by decide +kernel), List.mem_of_getElem? (i := 799) (by decide +kernel), List.mem_of_getElem? (i := 800) (by decide +kernel)⟩
theorem lw_p20 : lw_okq (⟨"DecisionChain", "needAction", "(II)V"⟩, 12) := ⟨⟨by decide +kernel, by decide +kernel⟩, List.mem_of_getElem? (i := 28) (by decide +kernel), List.mem_of_getElem? (i := 811) (by decide +kernel), List.mem_of_getElem? (i := 812) (by decide +kernel)⟩
theorem lw_p21 : lw_okq (⟨"DecisionChain", "needBudget", "(I)V"⟩, 12) := ⟨⟨by decide +kernel, by decide +kernel⟩, List.mem_of_getElem? (i := 28) (by decide +kernel), List.mem_of_getElem? (i := 823) (by decide +kernel), List.mem_of_getElem? (i := 824) (by decide +kernel)⟩
theorem lw_p22 : lw_okq (⟨"DecisionChain", "needTime", "(I)V"⟩, 12) := ⟨⟨by decide +kernel, by decide +kernel⟩, List.mem_of_getElem? (i := 28) (by decide +kernel), List.mem_of_getElem? (i := 869) (by decide +kernel), List.mem_of_getElem? (i := 870) (by decide +kernel)⟩
theorem lw_p23 : lw_okq (⟨"DecisionChain", "followRules", "()V"⟩, 12) := ⟨⟨by decide +kernel, by decide +kernel⟩, List.mem_of_getElem? (i := 28) (by decide +kernel), List.mem_of_getElem? (i := 877) (by decide +kernel), List.mem_of_getElem? (i := 878) (by decide +kernel)⟩
theorem lw_p24 : lw_okq (⟨"DecisionChain$Flows", "fillParts", "([I)V"⟩, 7) := ⟨⟨by decide +kernel, by decide +kernel⟩, List.mem_of_getElem? (i := 183) (by decide +kernel), List.mem_of_getElem? (i := 885) (by decide +kernel), List.mem_of_getElem? (i := 886) (by decide +kernel)⟩
theorem lw_p25 : lw_okq (⟨"DecisionChain$Flows", "addParts", "(III)V"⟩, 7) := ⟨⟨by decide +kernel, by decide +kernel⟩, List.mem_of_getElem? (i := 183) (by decide +kernel), List.mem_of_getElem? (i := 893) (by decide +kernel), List.mem_of_getElem? (i := 894) (by decide +kernel)⟩
theorem lw_p26 : lw_okq (⟨"DecisionChain$Flows", "spread", "([JI)V"⟩, 7) := ⟨⟨by decide +kernel, by decide +kernel⟩, List.mem_of_getElem? (i := 183) (by decide +kernel), List.mem_of_getElem? (i := 898) (by decide +kernel), List.mem_of_getElem? (i := 899) (by decide +kernel)⟩
theorem lw_p27 : lw_okq (⟨"DecisionChain$Flows", "partsTo", "(II)J"⟩, 7) := ⟨⟨by decide +kernel, by decide +kernel⟩, List.mem_of_getElem? (i := 183) (by decide +kernel), List.mem_of_getElem? (i := 902) (by decide +kernel), List.mem_of_getElem? (i := 903) (by decide +kernel)⟩
theorem lw_p28 : lw_okq (⟨"DecisionChain$Flows", "sumOf", "(II)J"⟩, 7) := ⟨⟨by decide +kernel, by decide +kernel⟩, List.mem_of_getElem? (i := 183) (by decide +kernel), List.mem_of_getElem? (i := 946) (by decide +kernel), List.mem_of_getElem? (i := 947) (by decide +kernel)⟩
theorem lw_p29 : lw_okq (⟨"DecisionChain", "brokenWith", "([I)I"⟩, 12) := ⟨⟨by decide +kernel, by decide +kernel⟩, List.mem_of_getElem? (i := 28) (by decide +kernel), List.mem_of_getElem? (i := 1012) (by decide +kernel), List.mem_of_getElem? (i := 1013) (by decide +kernel)⟩
theorem lw_p30 : lw_okq (⟨"DecisionChain$Spending", "spendFrom", "([IIII)V"⟩, 4) := ⟨⟨by decide +kernel, by decide +kernel⟩, List.mem_of_getElem? (i := 271) (by decide +kernel), List.mem_of_getElem? (i := 1029) (by decide +kernel), List.mem_of_getElem? (i := 1030) (by decide +kernel)⟩
theorem lw_p31 : lw_okq (⟨"DecisionChain$Spending", "spendTo", "(IJI)V"⟩, 4) := ⟨⟨by decide +kernel, by decide +kernel⟩, List.mem_of_getElem? (i := 271) (by decide +kernel), List.mem_of_getElem? (i := 1035) (by decide +kernel), List.mem_of_getElem? (i := 1036) (by decide +kernel)⟩
def lw_privs_2 : List (MethodName × Nat) := [(⟨"DecisionChain$Parser", "parseStart", "()Z"⟩, 7), (⟨"DecisionChain$Parser", "checkStates", "()Z"⟩, 7), (⟨"DecisionChain", "needChain", "()V"⟩, 12), (⟨"DecisionChain", "needState", "(I)V"⟩, 12), (⟨"DecisionChain", "needAction", "(II)V"⟩, 12), (⟨"DecisionChain", "needBudget", "(I)V"⟩, 12), (⟨"DecisionChain", "needTime", "(I)V"⟩, 12), (⟨"DecisionChain", "followRules", "()V"⟩, 12), (⟨"DecisionChain$Flows", "fillParts", "([I)V"⟩, 7), (⟨"DecisionChain$Flows", "addParts", "(III)V"⟩, 7), (⟨"DecisionChain$Flows", "spread", "([JI)V"⟩, 7), (⟨"DecisionChain$Flows", "partsTo", "(II)J"⟩, 7), (⟨"DecisionChain$Flows", "sumOf", "(II)J"⟩, 7), (⟨"DecisionChain", "brokenWith", "([I)I"⟩, 12), (⟨"DecisionChain$Spending", "spendFrom", "([IIII)V"⟩, 4), (⟨"DecisionChain$Spending", "spendTo", "(IJI)V"⟩, 4)]
theorem lw_r2 : ∀ q ∈ lw_privs_2, lw_okq q := List.forall_mem_cons.mpr ⟨lw_p16, List.forall_mem_cons.mpr ⟨lw_p17, List.forall_mem_cons.mpr ⟨lw_p18, List.forall_mem_cons.mpr ⟨lw_p19, List.forall_mem_cons.mpr ⟨lw_p20, List.forall_mem_cons.mpr ⟨lw_p21, List.forall_mem_cons.mpr ⟨lw_p22, List.forall_mem_cons.mpr ⟨lw_p23, List.forall_mem_cons.mpr ⟨lw_p24, List.forall_mem_cons.mpr ⟨lw_p25, List.forall_mem_cons.mpr ⟨lw_p26, List.forall_mem_cons.mpr ⟨lw_p27, List.forall_mem_cons.mpr ⟨lw_p28, List.forall_mem_cons.mpr ⟨lw_p29, List.forall_mem_cons.mpr ⟨lw_p30, List.forall_mem_cons.mpr ⟨lw_p31, fun _ h => absurd h List.not_mem_nil⟩⟩⟩⟩⟩⟩⟩⟩⟩⟩⟩⟩⟩⟩⟩⟩
theorem lw_p32 : lw_okq (⟨"DecisionChain$Spending", "greatestFrom", "([IIII)I"⟩, 4) := ⟨⟨by decide +kernel, by decide +kernel⟩, List.mem_of_getElem? (i := 271) (by decide +kernel), List.mem_of_getElem? (i := 1052) (by decide +kernel), List.mem_of_getElem? (i := 1053) (by decide +kernel)⟩
theorem lw_p33 : lw_okq (⟨"DecisionChain$Flows", "fillChances", "()V"⟩, 7) := ⟨⟨by decide +kernel, by decide +kernel⟩, List.mem_of_getElem? (i := 183) (by decide +kernel), List.mem_of_getElem? (i := 1096) (by decide +kernel), List.mem_of_getElem? (i := 1097) (by decide +kernel)⟩
theorem lw_p34 : lw_okq (⟨"DecisionChain$Flows", "chanceOver", "(III)J"⟩, 7) := ⟨⟨by decide +kernel, by decide +kernel⟩, List.mem_of_getElem? (i := 183) (by decide +kernel), List.mem_of_getElem? (i := 1100) (by decide +kernel), List.mem_of_getElem? (i := 1101) (by decide +kernel)⟩
theorem lw_p35 : lw_okq (⟨"DecisionChain$Flows", "likeliestNext", "(II)I"⟩, 7) := ⟨⟨by decide +kernel, by decide +kernel⟩, List.mem_of_getElem? (i := 183) (by decide +kernel), List.mem_of_getElem? (i := 1118) (by decide +kernel), List.mem_of_getElem? (i := 1119) (by decide +kernel)⟩
theorem lw_p36 : lw_okq (⟨"DecisionChain$Values", "valueOver", "(II)J"⟩, 3) := ⟨⟨by decide +kernel, by decide +kernel⟩, List.mem_of_getElem? (i := 331) (by decide +kernel), List.mem_of_getElem? (i := 1140) (by decide +kernel), List.mem_of_getElem? (i := 1141) (by decide +kernel)⟩
theorem lw_p37 : lw_okq (⟨"DecisionChain$PureSets", "fill", "()V"⟩, 11) := ⟨⟨by decide +kernel, by decide +kernel⟩, List.mem_of_getElem? (i := 290) (by decide +kernel), List.mem_of_getElem? (i := 1172) (by decide +kernel), List.mem_of_getElem? (i := 1173) (by decide +kernel)⟩
theorem lw_p38 : lw_okq (⟨"DecisionChain$PureSets", "begin", "()Z"⟩, 11) := ⟨⟨by decide +kernel, by decide +kernel⟩, List.mem_of_getElem? (i := 290) (by decide +kernel), List.mem_of_getElem? (i := 1176) (by decide +kernel), List.mem_of_getElem? (i := 1177) (by decide +kernel)⟩
theorem lw_p39 : lw_okq (⟨"DecisionChain$PureSets", "moveOn", "()Z"⟩, 11) := ⟨⟨by decide +kernel, by decide +kernel⟩, List.mem_of_getElem? (i := 290) (by decide +kernel), List.mem_of_getElem? (i := 1190) (by decide +kernel), List.mem_of_getElem? (i := 1191) (by decide +kernel)⟩
theorem lw_p40 : lw_okq (⟨"DecisionChain$PureSets", "isPermittedSet", "()Z"⟩, 11) := ⟨⟨by decide +kernel, by decide +kernel⟩, List.mem_of_getElem? (i := 290) (by decide +kernel), List.mem_of_getElem? (i := 1195) (by decide +kernel), List.mem_of_getElem? (i := 1196) (by decide +kernel)⟩
theorem lw_p41 : lw_okq (⟨"DecisionChain$PureSets", "holds", "(II)Z"⟩, 11) := ⟨⟨by decide +kernel, by decide +kernel⟩, List.mem_of_getElem? (i := 290) (by decide +kernel), List.mem_of_getElem? (i := 1200) (by decide +kernel), List.mem_of_getElem? (i := 1201) (by decide +kernel)⟩
theorem lw_p42 : lw_okq (⟨"DecisionChain$PureSets", "limitFor", "(I)I"⟩, 11) := ⟨⟨by decide +kernel, by decide +kernel⟩, List.mem_of_getElem? (i := 290) (by decide +kernel), List.mem_of_getElem? (i := 1243) (by decide +kernel), List.mem_of_getElem? (i := 1244) (by decide +kernel)⟩
theorem lw_p43 : lw_okq (⟨"DecisionChain", "needWalk", "()V"⟩, 12) := ⟨⟨by decide +kernel, by decide +kernel⟩, List.mem_of_getElem? (i := 28) (by decide +kernel), List.mem_of_getElem? (i := 1272) (by decide +kernel), List.mem_of_getElem? (i := 1273) (by decide +kernel)⟩
theorem lw_p44 : lw_okq (⟨"DecisionChain$Walker", "draw", "()I"⟩, 4) := ⟨⟨by decide +kernel, by decide +kernel⟩, List.mem_of_getElem? (i := 347) (by decide +kernel), List.mem_of_getElem? (i := 1318) (by decide +kernel), List.mem_of_getElem? (i := 1319) (by decide +kernel)⟩
theorem lw_p45 : lw_okq (⟨"DecisionChain$Walker", "drawAction", "([II)I"⟩, 4) := ⟨⟨by decide +kernel, by decide +kernel⟩, List.mem_of_getElem? (i := 347) (by decide +kernel), List.mem_of_getElem? (i := 1322) (by decide +kernel), List.mem_of_getElem? (i := 1323) (by decide +kernel)⟩
theorem lw_p46 : lw_okq (⟨"DecisionChain$Walker", "drawNext", "(II)I"⟩, 4) := ⟨⟨by decide +kernel, by decide +kernel⟩, List.mem_of_getElem? (i := 347) (by decide +kernel), List.mem_of_getElem? (i := 1327) (by decide +kernel), List.mem_of_getElem? (i := 1328) (by decide +kernel)⟩
theorem lw_p47 : lw_okq (⟨"DecisionChain$Report", "addByte", "(I)V"⟩, 2) := ⟨⟨by decide +kernel, by decide +kernel⟩, List.mem_of_getElem? (i := 369) (by decide +kernel), List.mem_of_getElem? (i := 1343) (by decide +kernel), List.mem_of_getElem? (i := 1344) (by decide +kernel)⟩
def lw_privs_3 : List (MethodName × Nat) := [(⟨"DecisionChain$Spending", "greatestFrom", "([IIII)I"⟩, 4), (⟨"DecisionChain$Flows", "fillChances", "()V"⟩, 7), (⟨"DecisionChain$Flows", "chanceOver", "(III)J"⟩, 7), (⟨"DecisionChain$Flows", "likeliestNext", "(II)I"⟩, 7), (⟨"DecisionChain$Values", "valueOver", "(II)J"⟩, 3), (⟨"DecisionChain$PureSets", "fill", "()V"⟩, 11), (⟨"DecisionChain$PureSets", "begin", "()Z"⟩, 11), (⟨"DecisionChain$PureSets", "moveOn", "()Z"⟩, 11), (⟨"DecisionChain$PureSets", "isPermittedSet", "()Z"⟩, 11), (⟨"DecisionChain$PureSets", "holds", "(II)Z"⟩, 11), (⟨"DecisionChain$PureSets", "limitFor", "(I)I"⟩, 11), (⟨"DecisionChain", "needWalk", "()V"⟩, 12), (⟨"DecisionChain$Walker", "draw", "()I"⟩, 4), (⟨"DecisionChain$Walker", "drawAction", "([II)I"⟩, 4), (⟨"DecisionChain$Walker", "drawNext", "(II)I"⟩, 4), (⟨"DecisionChain$Report", "addByte", "(I)V"⟩, 2)]
theorem lw_r3 : ∀ q ∈ lw_privs_3, lw_okq q := List.forall_mem_cons.mpr ⟨lw_p32, List.forall_mem_cons.mpr ⟨lw_p33, List.forall_mem_cons.mpr ⟨lw_p34, List.forall_mem_cons.mpr ⟨lw_p35, List.forall_mem_cons.mpr ⟨lw_p36, List.forall_mem_cons.mpr ⟨lw_p37, List.forall_mem_cons.mpr ⟨lw_p38, List.forall_mem_cons.mpr ⟨lw_p39, List.forall_mem_cons.mpr ⟨lw_p40, List.forall_mem_cons.mpr ⟨lw_p41, List.forall_mem_cons.mpr ⟨lw_p42, List.forall_mem_cons.mpr ⟨lw_p43, List.forall_mem_cons.mpr ⟨lw_p44, List.forall_mem_cons.mpr ⟨lw_p45, List.forall_mem_cons.mpr ⟨lw_p46, List.forall_mem_cons.mpr ⟨lw_p47, fun _ h => absurd h List.not_mem_nil⟩⟩⟩⟩⟩⟩⟩⟩⟩⟩⟩⟩⟩⟩⟩⟩
theorem lw_p48 : lw_okq (⟨"DecisionChain$Report", "addNumber", "(J)V"⟩, 2) := ⟨⟨by decide +kernel, by decide +kernel⟩, List.mem_of_getElem? (i := 369) (by decide +kernel), List.mem_of_getElem? (i := 1347) (by decide +kernel), List.mem_of_getElem? (i := 1348) (by decide +kernel)⟩
theorem lw_p49 : lw_okq (⟨"DecisionChain$Keeper", "dropOldest", "()V"⟩, 4) := ⟨⟨by decide +kernel, by decide +kernel⟩, List.mem_of_getElem? (i := 248) (by decide +kernel), List.mem_of_getElem? (i := 1372) (by decide +kernel), List.mem_of_getElem? (i := 1373) (by decide +kernel)⟩
theorem lw_p50 : lw_okq (⟨"DecisionChainModel", "refuse", "(ZI)Z"⟩, 32) := ⟨⟨by decide +kernel, by decide +kernel⟩, List.mem_of_getElem? (i := 1466) (by decide +kernel), List.mem_of_getElem? (i := 1597) (by decide +kernel), List.mem_of_getElem? (i := 1598) (by decide +kernel)⟩
theorem lw_p51 : lw_okq (⟨"DecisionChainModel", "reads", "(I)V"⟩, 32) := ⟨⟨by decide +kernel, by decide +kernel⟩, List.mem_of_getElem? (i := 1466) (by decide +kernel), List.mem_of_getElem? (i := 1601) (by decide +kernel), List.mem_of_getElem? (i := 1602) (by decide +kernel)⟩
theorem lw_p52 : lw_okq (⟨"DecisionChainModel", "token", "()V"⟩, 32) := ⟨⟨by decide +kernel, by decide +kernel⟩, List.mem_of_getElem? (i := 1466) (by decide +kernel), List.mem_of_getElem? (i := 1605) (by decide +kernel), List.mem_of_getElem? (i := 1606) (by decide +kernel)⟩
theorem lw_p53 : lw_okq (⟨"DecisionChainModel", "seen", "(I)I"⟩, 32) := ⟨⟨by decide +kernel, by decide +kernel⟩, List.mem_of_getElem? (i := 1466) (by decide +kernel), List.mem_of_getElem? (i := 1609) (by decide +kernel), List.mem_of_getElem? (i := 1610) (by decide +kernel)⟩
theorem lw_p54 : lw_okq (⟨"DecisionChainModel", "expects", "(Ljava/lang/String;)V"⟩, 32) := ⟨⟨by decide +kernel, by decide +kernel⟩, List.mem_of_getElem? (i := 1466) (by decide +kernel), List.mem_of_getElem? (i := 1620) (by decide +kernel), List.mem_of_getElem? (i := 1621) (by decide +kernel)⟩
theorem lw_p55 : lw_okq (⟨"DecisionChainModel", "passes", "(Ljava/lang/String;)Z"⟩, 32) := ⟨⟨by decide +kernel, by decide +kernel⟩, List.mem_of_getElem? (i := 1466) (by decide +kernel), List.mem_of_getElem? (i := 1624) (by decide +kernel), List.mem_of_getElem? (i := 1625) (by decide +kernel)⟩
theorem lw_p56 : lw_okq (⟨"DecisionChainModel", "isWord", "(Ljava/lang/String;)Z"⟩, 32) := ⟨⟨by decide +kernel, by decide +kernel⟩, List.mem_of_getElem? (i := 1466) (by decide +kernel), List.mem_of_getElem? (i := 1628) (by decide +kernel), List.mem_of_getElem? (i := 1629) (by decide +kernel)⟩
theorem lw_p57 : lw_okq (⟨"DecisionChainModel", "fails", "(I)V"⟩, 32) := ⟨⟨by decide +kernel, by decide +kernel⟩, List.mem_of_getElem? (i := 1466) (by decide +kernel), List.mem_of_getElem? (i := 1634) (by decide +kernel), List.mem_of_getElem? (i := 1635) (by decide +kernel)⟩
theorem lw_p58 : lw_okq (⟨"DecisionChainModel", "takes", "(Ljava/lang/String;II)I"⟩, 32) := ⟨⟨by decide +kernel, by decide +kernel⟩, List.mem_of_getElem? (i := 1466) (by decide +kernel), List.mem_of_getElem? (i := 1639) (by decide +kernel), List.mem_of_getElem? (i := 1640) (by decide +kernel)⟩
theorem lw_p59 : lw_okq (⟨"DecisionChainModel", "takes", "(II)I"⟩, 32) := ⟨⟨by decide +kernel, by decide +kernel⟩, List.mem_of_getElem? (i := 1466) (by decide +kernel), List.mem_of_getElem? (i := 1643) (by decide +kernel), List.mem_of_getElem? (i := 1644) (by decide +kernel)⟩
theorem lw_p60 : lw_okq (⟨"DecisionChainModel", "numberHere", "(II)I"⟩, 32) := ⟨⟨by decide +kernel, by decide +kernel⟩, List.mem_of_getElem? (i := 1466) (by decide +kernel), List.mem_of_getElem? (i := 1647) (by decide +kernel), List.mem_of_getElem? (i := 1648) (by decide +kernel)⟩
theorem lw_p61 : lw_okq (⟨"DecisionChainModel", "goesOn", "()V"⟩, 32) := ⟨⟨by decide +kernel, by decide +kernel⟩, List.mem_of_getElem? (i := 1466) (by decide +kernel), List.mem_of_getElem? (i := 1651) (by decide +kernel), List.mem_of_getElem? (i := 1652) (by decide +kernel)⟩
theorem lw_p62 : lw_okq (⟨"DecisionChainModel", "puts", "(II)V"⟩, 32) := ⟨⟨by decide +kernel, by decide +kernel⟩, List.mem_of_getElem? (i := 1466) (by decide +kernel), List.mem_of_getElem? (i := 1655) (by decide +kernel), List.mem_of_getElem? (i := 1656) (by decide +kernel)⟩
theorem lw_p63 : lw_okq (⟨"DecisionChainModel", "line", "()V"⟩, 32) := ⟨⟨by decide +kernel, by decide +kernel⟩, List.mem_of_getElem? (i := 1466) (by decide +kernel), List.mem_of_getElem? (i := 1661) (by decide +kernel), List.mem_of_getElem? (i := 1662) (by decide +kernel)⟩
def lw_privs_4 : List (MethodName × Nat) := [(⟨"DecisionChain$Report", "addNumber", "(J)V"⟩, 2), (⟨"DecisionChain$Keeper", "dropOldest", "()V"⟩, 4), (⟨"DecisionChainModel", "refuse", "(ZI)Z"⟩, 32), (⟨"DecisionChainModel", "reads", "(I)V"⟩, 32), (⟨"DecisionChainModel", "token", "()V"⟩, 32), (⟨"DecisionChainModel", "seen", "(I)I"⟩, 32), (⟨"DecisionChainModel", "expects", "(Ljava/lang/String;)V"⟩, 32), (⟨"DecisionChainModel", "passes", "(Ljava/lang/String;)Z"⟩, 32), (⟨"DecisionChainModel", "isWord", "(Ljava/lang/String;)Z"⟩, 32), (⟨"DecisionChainModel", "fails", "(I)V"⟩, 32), (⟨"DecisionChainModel", "takes", "(Ljava/lang/String;II)I"⟩, 32), (⟨"DecisionChainModel", "takes", "(II)I"⟩, 32), (⟨"DecisionChainModel", "numberHere", "(II)I"⟩, 32), (⟨"DecisionChainModel", "goesOn", "()V"⟩, 32), (⟨"DecisionChainModel", "puts", "(II)V"⟩, 32), (⟨"DecisionChainModel", "line", "()V"⟩, 32)]
theorem lw_r4 : ∀ q ∈ lw_privs_4, lw_okq q := List.forall_mem_cons.mpr ⟨lw_p48, List.forall_mem_cons.mpr ⟨lw_p49, List.forall_mem_cons.mpr ⟨lw_p50, List.forall_mem_cons.mpr ⟨lw_p51, List.forall_mem_cons.mpr ⟨lw_p52, List.forall_mem_cons.mpr ⟨lw_p53, List.forall_mem_cons.mpr ⟨lw_p54, List.forall_mem_cons.mpr ⟨lw_p55, List.forall_mem_cons.mpr ⟨lw_p56, List.forall_mem_cons.mpr ⟨lw_p57, List.forall_mem_cons.mpr ⟨lw_p58, List.forall_mem_cons.mpr ⟨lw_p59, List.forall_mem_cons.mpr ⟨lw_p60, List.forall_mem_cons.mpr ⟨lw_p61, List.forall_mem_cons.mpr ⟨lw_p62, List.forall_mem_cons.mpr ⟨lw_p63, fun _ h => absurd h List.not_mem_nil⟩⟩⟩⟩⟩⟩⟩⟩⟩⟩⟩⟩⟩⟩⟩⟩
theorem lw_p64 : lw_okq (⟨"DecisionChainModel", "budgetLine", "()V"⟩, 32) := ⟨⟨by decide +kernel, by decide +kernel⟩, List.mem_of_getElem? (i := 1466) (by decide +kernel), List.mem_of_getElem? (i := 1666) (by decide +kernel), List.mem_of_getElem? (i := 1667) (by decide +kernel)⟩
theorem lw_p65 : lw_okq (⟨"DecisionChainModel", "actLine", "()V"⟩, 32) := ⟨⟨by decide +kernel, by decide +kernel⟩, List.mem_of_getElem? (i := 1466) (by decide +kernel), List.mem_of_getElem? (i := 1671) (by decide +kernel), List.mem_of_getElem? (i := 1672) (by decide +kernel)⟩
theorem lw_p66 : lw_okq (⟨"DecisionChainModel", "stateHere", "()I"⟩, 32) := ⟨⟨by decide +kernel, by decide +kernel⟩, List.mem_of_getElem? (i := 1466) (by decide +kernel), List.mem_of_getElem? (i := 1675) (by decide +kernel), List.mem_of_getElem? (i := 1676) (by decide +kernel)⟩
theorem lw_p67 : lw_okq (⟨"DecisionChainModel", "usesRead", "(I)V"⟩, 32) := ⟨⟨by decide +kernel, by decide +kernel⟩, List.mem_of_getElem? (i := 1466) (by decide +kernel), List.mem_of_getElem? (i := 1680) (by decide +kernel), List.mem_of_getElem? (i := 1681) (by decide +kernel)⟩
theorem lw_p68 : lw_okq (⟨"DecisionChainModel", "toRead", "(II)I"⟩, 32) := ⟨⟨by decide +kernel, by decide +kernel⟩, List.mem_of_getElem? (i := 1466) (by decide +kernel), List.mem_of_getElem? (i := 1685) (by decide +kernel), List.mem_of_getElem? (i := 1686) (by decide +kernel)⟩
theorem lw_p69 : lw_okq (⟨"DecisionChainModel", "endsAt", "(Z)V"⟩, 32) := ⟨⟨by decide +kernel, by decide +kernel⟩, List.mem_of_getElem? (i := 1466) (by decide +kernel), List.mem_of_getElem? (i := 1689) (by decide +kernel), List.mem_of_getElem? (i := 1690) (by decide +kernel)⟩
theorem lw_p70 : lw_okq (⟨"DecisionChainModel", "ruleLine", "()V"⟩, 32) := ⟨⟨by decide +kernel, by decide +kernel⟩, List.mem_of_getElem? (i := 1466) (by decide +kernel), List.mem_of_getElem? (i := 1694) (by decide +kernel), List.mem_of_getElem? (i := 1695) (by decide +kernel)⟩
theorem lw_p71 : lw_okq (⟨"DecisionChainModel", "startLine", "()V"⟩, 32) := ⟨⟨by decide +kernel, by decide +kernel⟩, List.mem_of_getElem? (i := 1466) (by decide +kernel), List.mem_of_getElem? (i := 1699) (by decide +kernel), List.mem_of_getElem? (i := 1700) (by decide +kernel)⟩
theorem lw_p72 : lw_okq (⟨"DecisionChainModel", "starts", "()I"⟩, 32) := ⟨⟨by decide +kernel, by decide +kernel⟩, List.mem_of_getElem? (i := 1466) (by decide +kernel), List.mem_of_getElem? (i := 1703) (by decide +kernel), List.mem_of_getElem? (i := 1704) (by decide +kernel)⟩
theorem lw_p73 : lw_okq (⟨"DecisionChainModel", "told", "(I)I"⟩, 32) := ⟨⟨by decide +kernel, by decide +kernel⟩, List.mem_of_getElem? (i := 1466) (by decide +kernel), List.mem_of_getElem? (i := 1711) (by decide +kernel), List.mem_of_getElem? (i := 1712) (by decide +kernel)⟩
theorem lw_p74 : lw_okq (⟨"DecisionChainModel", "noChain", "()Z"⟩, 32) := ⟨⟨by decide +kernel, by decide +kernel⟩, List.mem_of_getElem? (i := 1466) (by decide +kernel), List.mem_of_getElem? (i := 1731) (by decide +kernel), List.mem_of_getElem? (i := 1732) (by decide +kernel)⟩
theorem lw_p75 : lw_okq (⟨"DecisionChainModel", "noState", "(I)Z"⟩, 32) := ⟨⟨by decide +kernel, by decide +kernel⟩, List.mem_of_getElem? (i := 1466) (by decide +kernel), List.mem_of_getElem? (i := 1739) (by decide +kernel), List.mem_of_getElem? (i := 1740) (by decide +kernel)⟩
theorem lw_p76 : lw_okq (⟨"DecisionChainModel", "isState", "(I)Z"⟩, 32) := ⟨⟨by decide +kernel, by decide +kernel⟩, List.mem_of_getElem? (i := 1466) (by decide +kernel), List.mem_of_getElem? (i := 1743) (by decide +kernel), List.mem_of_getElem? (i := 1744) (by decide +kernel)⟩
theorem lw_p77 : lw_okq (⟨"DecisionChainModel", "noAction", "(II)Z"⟩, 32) := ⟨⟨by decide +kernel, by decide +kernel⟩, List.mem_of_getElem? (i := 1466) (by decide +kernel), List.mem_of_getElem? (i := 1751) (by decide +kernel), List.mem_of_getElem? (i := 1752) (by decide +kernel)⟩
theorem lw_p78 : lw_okq (⟨"DecisionChainModel", "isAction", "(II)Z"⟩, 32) := ⟨⟨by decide +kernel, by decide +kernel⟩, List.mem_of_getElem? (i := 1466) (by decide +kernel), List.mem_of_getElem? (i := 1755) (by decide +kernel), List.mem_of_getElem? (i := 1756) (by decide +kernel)⟩
theorem lw_p79 : lw_okq (⟨"DecisionChainModel", "gainBy", "(II)I"⟩, 32) := ⟨⟨by decide +kernel, by decide +kernel⟩, List.mem_of_getElem? (i := 1466) (by decide +kernel), List.mem_of_getElem? (i := 1759) (by decide +kernel), List.mem_of_getElem? (i := 1760) (by decide +kernel)⟩
def lw_privs_5 : List (MethodName × Nat) := [(⟨"DecisionChainModel", "budgetLine", "()V"⟩, 32), (⟨"DecisionChainModel", "actLine", "()V"⟩, 32), (⟨"DecisionChainModel", "stateHere", "()I"⟩, 32), (⟨"DecisionChainModel", "usesRead", "(I)V"⟩, 32), (⟨"DecisionChainModel", "toRead", "(II)I"⟩, 32), (⟨"DecisionChainModel", "endsAt", "(Z)V"⟩, 32), (⟨"DecisionChainModel", "ruleLine", "()V"⟩, 32), (⟨"DecisionChainModel", "startLine", "()V"⟩, 32), (⟨"DecisionChainModel", "starts", "()I"⟩, 32), (⟨"DecisionChainModel", "told", "(I)I"⟩, 32), (⟨"DecisionChainModel", "noChain", "()Z"⟩, 32), (⟨"DecisionChainModel", "noState", "(I)Z"⟩, 32), (⟨"DecisionChainModel", "isState", "(I)Z"⟩, 32), (⟨"DecisionChainModel", "noAction", "(II)Z"⟩, 32), (⟨"DecisionChainModel", "isAction", "(II)Z"⟩, 32), (⟨"DecisionChainModel", "gainBy", "(II)I"⟩, 32)]
theorem lw_r5 : ∀ q ∈ lw_privs_5, lw_okq q := List.forall_mem_cons.mpr ⟨lw_p64, List.forall_mem_cons.mpr ⟨lw_p65, List.forall_mem_cons.mpr ⟨lw_p66, List.forall_mem_cons.mpr ⟨lw_p67, List.forall_mem_cons.mpr ⟨lw_p68, List.forall_mem_cons.mpr ⟨lw_p69, List.forall_mem_cons.mpr ⟨lw_p70, List.forall_mem_cons.mpr ⟨lw_p71, List.forall_mem_cons.mpr ⟨lw_p72, List.forall_mem_cons.mpr ⟨lw_p73, List.forall_mem_cons.mpr ⟨lw_p74, List.forall_mem_cons.mpr ⟨lw_p75, List.forall_mem_cons.mpr ⟨lw_p76, List.forall_mem_cons.mpr ⟨lw_p77, List.forall_mem_cons.mpr ⟨lw_p78, List.forall_mem_cons.mpr ⟨lw_p79, fun _ h => absurd h List.not_mem_nil⟩⟩⟩⟩⟩⟩⟩⟩⟩⟩⟩⟩⟩⟩⟩⟩
theorem lw_p80 : lw_okq (⟨"DecisionChainModel", "isBudget", "(I)Z"⟩, 32) := ⟨⟨by decide +kernel, by decide +kernel⟩, List.mem_of_getElem? (i := 1466) (by decide +kernel), List.mem_of_getElem? (i := 1767) (by decide +kernel), List.mem_of_getElem? (i := 1768) (by decide +kernel)⟩
theorem lw_p81 : lw_okq (⟨"DecisionChainModel", "usesBy", "(III)I"⟩, 32) := ⟨⟨by decide +kernel, by decide +kernel⟩, List.mem_of_getElem? (i := 1466) (by decide +kernel), List.mem_of_getElem? (i := 1771) (by decide +kernel), List.mem_of_getElem? (i := 1772) (by decide +kernel)⟩
theorem lw_p82 : lw_okq (⟨"DecisionChainModel", "percentBy", "(III)I"⟩, 32) := ⟨⟨by decide +kernel, by decide +kernel⟩, List.mem_of_getElem? (i := 1466) (by decide +kernel), List.mem_of_getElem? (i := 1779) (by decide +kernel), List.mem_of_getElem? (i := 1780) (by decide +kernel)⟩
theorem lw_p83 : lw_okq (⟨"DecisionChainModel", "weightOf", "(II)I"⟩, 32) := ⟨⟨by decide +kernel, by decide +kernel⟩, List.mem_of_getElem? (i := 1466) (by decide +kernel), List.mem_of_getElem? (i := 1787) (by decide +kernel), List.mem_of_getElem? (i := 1788) (by decide +kernel)⟩
theorem lw_p84 : lw_okq (⟨"DecisionChainModel", "isPermittedNow", "(II)Z"⟩, 32) := ⟨⟨by decide +kernel, by decide +kernel⟩, List.mem_of_getElem? (i := 1466) (by decide +kernel), List.mem_of_getElem? (i := 1795) (by decide +kernel), List.mem_of_getElem? (i := 1796) (by decide +kernel)⟩
theorem lw_p85 : lw_okq (⟨"DecisionChainModel", "noBudget", "(I)Z"⟩, 32) := ⟨⟨by decide +kernel, by decide +kernel⟩, List.mem_of_getElem? (i := 1466) (by decide +kernel), List.mem_of_getElem? (i := 1803) (by decide +kernel), List.mem_of_getElem? (i := 1804) (by decide +kernel)⟩
theorem lw_p86 : lw_okq (⟨"DecisionChainModel", "isTime", "(I)Z"⟩, 32) := ⟨⟨by decide +kernel, by decide +kernel⟩, List.mem_of_getElem? (i := 1466) (by decide +kernel), List.mem_of_getElem? (i := 1811) (by decide +kernel), List.mem_of_getElem? (i := 1812) (by decide +kernel)⟩
theorem lw_p87 : lw_okq (⟨"DecisionChainModel", "reachAt", "(I)I"⟩, 32) := ⟨⟨by decide +kernel, by decide +kernel⟩, List.mem_of_getElem? (i := 1466) (by decide +kernel), List.mem_of_getElem? (i := 1815) (by decide +kernel), List.mem_of_getElem? (i := 1816) (by decide +kernel)⟩
theorem lw_p88 : lw_okq (⟨"DecisionChainModel", "lays", "(I)V"⟩, 32) := ⟨⟨by decide +kernel, by decide +kernel⟩, List.mem_of_getElem? (i := 1466) (by decide +kernel), List.mem_of_getElem? (i := 1819) (by decide +kernel), List.mem_of_getElem? (i := 1820) (by decide +kernel)⟩
theorem lw_p89 : lw_okq (⟨"DecisionChainModel", "stepOf", "(II)I"⟩, 32) := ⟨⟨by decide +kernel, by decide +kernel⟩, List.mem_of_getElem? (i := 1466) (by decide +kernel), List.mem_of_getElem? (i := 1823) (by decide +kernel), List.mem_of_getElem? (i := 1824) (by decide +kernel)⟩
theorem lw_p90 : lw_okq (⟨"DecisionChainModel", "together", "(I)J"⟩, 32) := ⟨⟨by decide +kernel, by decide +kernel⟩, List.mem_of_getElem? (i := 1466) (by decide +kernel), List.mem_of_getElem? (i := 1843) (by decide +kernel), List.mem_of_getElem? (i := 1844) (by decide +kernel)⟩
theorem lw_p91 : lw_okq (⟨"DecisionChainModel", "unitNow", "()J"⟩, 32) := ⟨⟨by decide +kernel, by decide +kernel⟩, List.mem_of_getElem? (i := 1466) (by decide +kernel), List.mem_of_getElem? (i := 1858) (by decide +kernel), List.mem_of_getElem? (i := 1859) (by decide +kernel)⟩
theorem lw_p92 : lw_okq (⟨"DecisionChainModel", "ofRun", "(I)J"⟩, 32) := ⟨⟨by decide +kernel, by decide +kernel⟩, List.mem_of_getElem? (i := 1466) (by decide +kernel), List.mem_of_getElem? (i := 1867) (by decide +kernel), List.mem_of_getElem? (i := 1868) (by decide +kernel)⟩
theorem lw_p93 : lw_okq (⟨"DecisionChainModel", "leftOf", "(I)J"⟩, 32) := ⟨⟨by decide +kernel, by decide +kernel⟩, List.mem_of_getElem? (i := 1466) (by decide +kernel), List.mem_of_getElem? (i := 1879) (by decide +kernel), List.mem_of_getElem? (i := 1880) (by decide +kernel)⟩
theorem lw_p94 : lw_okq (⟨"DecisionChainModel", "brokenNow", "()I"⟩, 32) := ⟨⟨by decide +kernel, by decide +kernel⟩, List.mem_of_getElem? (i := 1466) (by decide +kernel), List.mem_of_getElem? (i := 1887) (by decide +kernel), List.mem_of_getElem? (i := 1888) (by decide +kernel)⟩
theorem lw_p95 : lw_okq (⟨"DecisionChainModel", "laysMass", "(I)V"⟩, 32) := ⟨⟨by decide +kernel, by decide +kernel⟩, List.mem_of_getElem? (i := 1466) (by decide +kernel), List.mem_of_getElem? (i := 1907) (by decide +kernel), List.mem_of_getElem? (i := 1908) (by decide +kernel)⟩
def lw_privs_6 : List (MethodName × Nat) := [(⟨"DecisionChainModel", "isBudget", "(I)Z"⟩, 32), (⟨"DecisionChainModel", "usesBy", "(III)I"⟩, 32), (⟨"DecisionChainModel", "percentBy", "(III)I"⟩, 32), (⟨"DecisionChainModel", "weightOf", "(II)I"⟩, 32), (⟨"DecisionChainModel", "isPermittedNow", "(II)Z"⟩, 32), (⟨"DecisionChainModel", "noBudget", "(I)Z"⟩, 32), (⟨"DecisionChainModel", "isTime", "(I)Z"⟩, 32), (⟨"DecisionChainModel", "reachAt", "(I)I"⟩, 32), (⟨"DecisionChainModel", "lays", "(I)V"⟩, 32), (⟨"DecisionChainModel", "stepOf", "(II)I"⟩, 32), (⟨"DecisionChainModel", "together", "(I)J"⟩, 32), (⟨"DecisionChainModel", "unitNow", "()J"⟩, 32), (⟨"DecisionChainModel", "ofRun", "(I)J"⟩, 32), (⟨"DecisionChainModel", "leftOf", "(I)J"⟩, 32), (⟨"DecisionChainModel", "brokenNow", "()I"⟩, 32), (⟨"DecisionChainModel", "laysMass", "(I)V"⟩, 32)]
theorem lw_r6 : ∀ q ∈ lw_privs_6, lw_okq q := List.forall_mem_cons.mpr ⟨lw_p80, List.forall_mem_cons.mpr ⟨lw_p81, List.forall_mem_cons.mpr ⟨lw_p82, List.forall_mem_cons.mpr ⟨lw_p83, List.forall_mem_cons.mpr ⟨lw_p84, List.forall_mem_cons.mpr ⟨lw_p85, List.forall_mem_cons.mpr ⟨lw_p86, List.forall_mem_cons.mpr ⟨lw_p87, List.forall_mem_cons.mpr ⟨lw_p88, List.forall_mem_cons.mpr ⟨lw_p89, List.forall_mem_cons.mpr ⟨lw_p90, List.forall_mem_cons.mpr ⟨lw_p91, List.forall_mem_cons.mpr ⟨lw_p92, List.forall_mem_cons.mpr ⟨lw_p93, List.forall_mem_cons.mpr ⟨lw_p94, List.forall_mem_cons.mpr ⟨lw_p95, fun _ h => absurd h List.not_mem_nil⟩⟩⟩⟩⟩⟩⟩⟩⟩⟩⟩⟩⟩⟩⟩⟩
theorem lw_p96 : lw_okq (⟨"DecisionChainModel", "stepsMass", "(I)V"⟩, 32) := ⟨⟨by decide +kernel, by decide +kernel⟩, List.mem_of_getElem? (i := 1466) (by decide +kernel), List.mem_of_getElem? (i := 1911) (by decide +kernel), List.mem_of_getElem? (i := 1912) (by decide +kernel)⟩
theorem lw_p97 : lw_okq (⟨"DecisionChainModel", "goesBy", "(III)V"⟩, 32) := ⟨⟨by decide +kernel, by decide +kernel⟩, List.mem_of_getElem? (i := 1466) (by decide +kernel), List.mem_of_getElem? (i := 1915) (by decide +kernel), List.mem_of_getElem? (i := 1916) (by decide +kernel)⟩
theorem lw_p98 : lw_okq (⟨"DecisionChainModel", "massOf", "(I)J"⟩, 32) := ⟨⟨by decide +kernel, by decide +kernel⟩, List.mem_of_getElem? (i := 1466) (by decide +kernel), List.mem_of_getElem? (i := 1919) (by decide +kernel), List.mem_of_getElem? (i := 1920) (by decide +kernel)⟩
theorem lw_p99 : lw_okq (⟨"DecisionChainModel", "laysAhead", "()J"⟩, 32) := ⟨⟨by decide +kernel, by decide +kernel⟩, List.mem_of_getElem? (i := 1466) (by decide +kernel), List.mem_of_getElem? (i := 1931) (by decide +kernel), List.mem_of_getElem? (i := 1932) (by decide +kernel)⟩
theorem lw_p100 : lw_okq (⟨"DecisionChainModel", "laysWorths", "(I)V"⟩, 32) := ⟨⟨by decide +kernel, by decide +kernel⟩, List.mem_of_getElem? (i := 1466) (by decide +kernel), List.mem_of_getElem? (i := 1944) (by decide +kernel), List.mem_of_getElem? (i := 1945) (by decide +kernel)⟩
theorem lw_p101 : lw_okq (⟨"DecisionChainModel", "worthiest", "(II)I"⟩, 32) := ⟨⟨by decide +kernel, by decide +kernel⟩, List.mem_of_getElem? (i := 1466) (by decide +kernel), List.mem_of_getElem? (i := 1948) (by decide +kernel), List.mem_of_getElem? (i := 1949) (by decide +kernel)⟩
theorem lw_p102 : lw_okq (⟨"DecisionChainModel", "worthOf", "(III)J"⟩, 32) := ⟨⟨by decide +kernel, by decide +kernel⟩, List.mem_of_getElem? (i := 1466) (by decide +kernel), List.mem_of_getElem? (i := 1952) (by decide +kernel), List.mem_of_getElem? (i := 1953) (by decide +kernel)⟩
theorem lw_p103 : lw_okq (⟨"DecisionChainModel", "findsBest", "()J"⟩, 32) := ⟨⟨by decide +kernel, by decide +kernel⟩, List.mem_of_getElem? (i := 1466) (by decide +kernel), List.mem_of_getElem? (i := 1964) (by decide +kernel), List.mem_of_getElem? (i := 1965) (by decide +kernel)⟩
theorem lw_p104 : lw_okq (⟨"DecisionChainModel", "beginsPure", "()V"⟩, 32) := ⟨⟨by decide +kernel, by decide +kernel⟩, List.mem_of_getElem? (i := 1466) (by decide +kernel), List.mem_of_getElem? (i := 1968) (by decide +kernel), List.mem_of_getElem? (i := 1969) (by decide +kernel)⟩
theorem lw_p105 : lw_okq (⟨"DecisionChainModel", "keeps", "(I)V"⟩, 32) := ⟨⟨by decide +kernel, by decide +kernel⟩, List.mem_of_getElem? (i := 1466) (by decide +kernel), List.mem_of_getElem? (i := 1972) (by decide +kernel), List.mem_of_getElem? (i := 1973) (by decide +kernel)⟩
theorem lw_p106 : lw_okq (⟨"DecisionChainModel", "takesPure", "()V"⟩, 32) := ⟨⟨by decide +kernel, by decide +kernel⟩, List.mem_of_getElem? (i := 1466) (by decide +kernel), List.mem_of_getElem? (i := 1977) (by decide +kernel), List.mem_of_getElem? (i := 1978) (by decide +kernel)⟩
theorem lw_p107 : lw_okq (⟨"DecisionChainModel", "givesAll", "(II)V"⟩, 32) := ⟨⟨by decide +kernel, by decide +kernel⟩, List.mem_of_getElem? (i := 1466) (by decide +kernel), List.mem_of_getElem? (i := 1981) (by decide +kernel), List.mem_of_getElem? (i := 1982) (by decide +kernel)⟩
theorem lw_p108 : lw_okq (⟨"DecisionChainModel", "isAllowed", "()Z"⟩, 32) := ⟨⟨by decide +kernel, by decide +kernel⟩, List.mem_of_getElem? (i := 1466) (by decide +kernel), List.mem_of_getElem? (i := 1985) (by decide +kernel), List.mem_of_getElem? (i := 1986) (by decide +kernel)⟩
theorem lw_p109 : lw_okq (⟨"DecisionChainModel", "keepsBest", "(J)V"⟩, 32) := ⟨⟨by decide +kernel, by decide +kernel⟩, List.mem_of_getElem? (i := 1466) (by decide +kernel), List.mem_of_getElem? (i := 1989) (by decide +kernel), List.mem_of_getElem? (i := 1990) (by decide +kernel)⟩
theorem lw_p110 : lw_okq (⟨"DecisionChainModel", "turns", "()Z"⟩, 32) := ⟨⟨by decide +kernel, by decide +kernel⟩, List.mem_of_getElem? (i := 1466) (by decide +kernel), List.mem_of_getElem? (i := 1993) (by decide +kernel), List.mem_of_getElem? (i := 1994) (by decide +kernel)⟩
theorem lw_p111 : lw_okq (⟨"DecisionChainModel", "fetches", "(I)V"⟩, 32) := ⟨⟨by decide +kernel, by decide +kernel⟩, List.mem_of_getElem? (i := 1466) (by decide +kernel), List.mem_of_getElem? (i := 1997) (by decide +kernel), List.mem_of_getElem? (i := 1998) (by decide +kernel)⟩
def lw_privs_7 : List (MethodName × Nat) := [(⟨"DecisionChainModel", "stepsMass", "(I)V"⟩, 32), (⟨"DecisionChainModel", "goesBy", "(III)V"⟩, 32), (⟨"DecisionChainModel", "massOf", "(I)J"⟩, 32), (⟨"DecisionChainModel", "laysAhead", "()J"⟩, 32), (⟨"DecisionChainModel", "laysWorths", "(I)V"⟩, 32), (⟨"DecisionChainModel", "worthiest", "(II)I"⟩, 32), (⟨"DecisionChainModel", "worthOf", "(III)J"⟩, 32), (⟨"DecisionChainModel", "findsBest", "()J"⟩, 32), (⟨"DecisionChainModel", "beginsPure", "()V"⟩, 32), (⟨"DecisionChainModel", "keeps", "(I)V"⟩, 32), (⟨"DecisionChainModel", "takesPure", "()V"⟩, 32), (⟨"DecisionChainModel", "givesAll", "(II)V"⟩, 32), (⟨"DecisionChainModel", "isAllowed", "()Z"⟩, 32), (⟨"DecisionChainModel", "keepsBest", "(J)V"⟩, 32), (⟨"DecisionChainModel", "turns", "()Z"⟩, 32), (⟨"DecisionChainModel", "fetches", "(I)V"⟩, 32)]
theorem lw_r7 : ∀ q ∈ lw_privs_7, lw_okq q := List.forall_mem_cons.mpr ⟨lw_p96, List.forall_mem_cons.mpr ⟨lw_p97, List.forall_mem_cons.mpr ⟨lw_p98, List.forall_mem_cons.mpr ⟨lw_p99, List.forall_mem_cons.mpr ⟨lw_p100, List.forall_mem_cons.mpr ⟨lw_p101, List.forall_mem_cons.mpr ⟨lw_p102, List.forall_mem_cons.mpr ⟨lw_p103, List.forall_mem_cons.mpr ⟨lw_p104, List.forall_mem_cons.mpr ⟨lw_p105, List.forall_mem_cons.mpr ⟨lw_p106, List.forall_mem_cons.mpr ⟨lw_p107, List.forall_mem_cons.mpr ⟨lw_p108, List.forall_mem_cons.mpr ⟨lw_p109, List.forall_mem_cons.mpr ⟨lw_p110, List.forall_mem_cons.mpr ⟨lw_p111, fun _ h => absurd h List.not_mem_nil⟩⟩⟩⟩⟩⟩⟩⟩⟩⟩⟩⟩⟩⟩⟩⟩
theorem lw_p112 : lw_okq (⟨"DecisionChainModel", "noWalk", "()Z"⟩, 32) := ⟨⟨by decide +kernel, by decide +kernel⟩, List.mem_of_getElem? (i := 1466) (by decide +kernel), List.mem_of_getElem? (i := 2031) (by decide +kernel), List.mem_of_getElem? (i := 2032) (by decide +kernel)⟩
theorem lw_p113 : lw_okq (⟨"DecisionChainModel", "ofWalk", "(I)I"⟩, 32) := ⟨⟨by decide +kernel, by decide +kernel⟩, List.mem_of_getElem? (i := 1466) (by decide +kernel), List.mem_of_getElem? (i := 2043) (by decide +kernel), List.mem_of_getElem? (i := 2044) (by decide +kernel)⟩
theorem lw_p114 : lw_okq (⟨"DecisionChainModel", "walks", "()V"⟩, 32) := ⟨⟨by decide +kernel, by decide +kernel⟩, List.mem_of_getElem? (i := 1466) (by decide +kernel), List.mem_of_getElem? (i := 2056) (by decide +kernel), List.mem_of_getElem? (i := 2057) (by decide +kernel)⟩
theorem lw_p115 : lw_okq (⟨"DecisionChainModel", "drawsAction", "(I)I"⟩, 32) := ⟨⟨by decide +kernel, by decide +kernel⟩, List.mem_of_getElem? (i := 1466) (by decide +kernel), List.mem_of_getElem? (i := 2060) (by decide +kernel), List.mem_of_getElem? (i := 2061) (by decide +kernel)⟩
theorem lw_p116 : lw_okq (⟨"DecisionChainModel", "draws", "(I)I"⟩, 32) := ⟨⟨by decide +kernel, by decide +kernel⟩, List.mem_of_getElem? (i := 1466) (by decide +kernel), List.mem_of_getElem? (i := 2064) (by decide +kernel), List.mem_of_getElem? (i := 2065) (by decide +kernel)⟩
theorem lw_p117 : lw_okq (⟨"DecisionChainModel", "drawsState", "(II)I"⟩, 32) := ⟨⟨by decide +kernel, by decide +kernel⟩, List.mem_of_getElem? (i := 1466) (by decide +kernel), List.mem_of_getElem? (i := 2068) (by decide +kernel), List.mem_of_getElem? (i := 2069) (by decide +kernel)⟩
theorem lw_p118 : lw_okq (⟨"DecisionChainModel", "says", "(I)V"⟩, 32) := ⟨⟨by decide +kernel, by decide +kernel⟩, List.mem_of_getElem? (i := 1466) (by decide +kernel), List.mem_of_getElem? (i := 2076) (by decide +kernel), List.mem_of_getElem? (i := 2077) (by decide +kernel)⟩
theorem lw_p119 : lw_okq (⟨"DecisionChainModel", "saysNumber", "(J)V"⟩, 32) := ⟨⟨by decide +kernel, by decide +kernel⟩, List.mem_of_getElem? (i := 1466) (by decide +kernel), List.mem_of_getElem? (i := 2080) (by decide +kernel), List.mem_of_getElem? (i := 2081) (by decide +kernel)⟩
theorem lw_p120 : lw_okq (⟨"DecisionChainModel", "keepsAll", "()V"⟩, 32) := ⟨⟨by decide +kernel, by decide +kernel⟩, List.mem_of_getElem? (i := 1466) (by decide +kernel), List.mem_of_getElem? (i := 2096) (by decide +kernel), List.mem_of_getElem? (i := 2097) (by decide +kernel)⟩
theorem lw_p121 : lw_okq (⟨"DecisionChainModel", "permitted", "(I)I"⟩, 32) := ⟨⟨by decide +kernel, by decide +kernel⟩, List.mem_of_getElem? (i := 1466) (by decide +kernel), List.mem_of_getElem? (i := 2108) (by decide +kernel), List.mem_of_getElem? (i := 2109) (by decide +kernel)⟩
def lw_privs_8 : List (MethodName × Nat) := [(⟨"DecisionChainModel", "noWalk", "()Z"⟩, 32), (⟨"DecisionChainModel", "ofWalk", "(I)I"⟩, 32), (⟨"DecisionChainModel", "walks", "()V"⟩, 32), (⟨"DecisionChainModel", "drawsAction", "(I)I"⟩, 32), (⟨"DecisionChainModel", "draws", "(I)I"⟩, 32), (⟨"DecisionChainModel", "drawsState", "(II)I"⟩, 32), (⟨"DecisionChainModel", "says", "(I)V"⟩, 32), (⟨"DecisionChainModel", "saysNumber", "(J)V"⟩, 32), (⟨"DecisionChainModel", "keepsAll", "()V"⟩, 32), (⟨"DecisionChainModel", "permitted", "(I)I"⟩, 32)]
theorem lw_r8 : ∀ q ∈ lw_privs_8, lw_okq q := List.forall_mem_cons.mpr ⟨lw_p112, List.forall_mem_cons.mpr ⟨lw_p113, List.forall_mem_cons.mpr ⟨lw_p114, List.forall_mem_cons.mpr ⟨lw_p115, List.forall_mem_cons.mpr ⟨lw_p116, List.forall_mem_cons.mpr ⟨lw_p117, List.forall_mem_cons.mpr ⟨lw_p118, List.forall_mem_cons.mpr ⟨lw_p119, List.forall_mem_cons.mpr ⟨lw_p120, List.forall_mem_cons.mpr ⟨lw_p121, fun _ h => absurd h List.not_mem_nil⟩⟩⟩⟩⟩⟩⟩⟩⟩⟩
def lw_privs : List (MethodName × Nat) := lw_privs_1 ++ (lw_privs_2 ++ (lw_privs_3 ++ (lw_privs_4 ++ (lw_privs_5 ++ (lw_privs_6 ++ (lw_privs_7 ++ (lw_privs_8)))))))
def lw_tbl : List Cond := k2_sels lw_privs ++ tables_1
theorem lw_privs_ok : ∀ q ∈ lw_privs, lw_okq q := by
  show ∀ q ∈ lw_privs_1 ++ (lw_privs_2 ++ (lw_privs_3 ++ (lw_privs_4 ++ (lw_privs_5 ++ (lw_privs_6 ++ (lw_privs_7 ++ (lw_privs_8))))))), lw_okq q
  exact List.forall_mem_append.mpr ⟨lw_r1, List.forall_mem_append.mpr ⟨lw_r2, List.forall_mem_append.mpr ⟨lw_r3, List.forall_mem_append.mpr ⟨lw_r4, List.forall_mem_append.mpr ⟨lw_r5, List.forall_mem_append.mpr ⟨lw_r6, List.forall_mem_append.mpr ⟨lw_r7, lw_r8⟩⟩⟩⟩⟩⟩⟩
/-- the streams that the claim lets the run draw from -/
abbrev lw_cs : List Choice := [Jvm.Choice.named "NaN.bits"]
theorem lw_bits : nanBits ∈ lw_cs := by first | decide | exact List.mem_cons_self | simp [lw_cs, nanBits]

def RX0 : String := "DecisionChain$Chain"
def TX0 : u_T := fun k => match k with
  | 0 => ("DecisionChain$Chain", "states", "I", false)
  | 1 => ("DecisionChain$Chain", "budgets", "I", false)
  | 2 => ("DecisionChain$Chain", "actions", "[I", true)
  | 3 => ("DecisionChain$Chain", "gains", "[I", true)
  | 4 => ("DecisionChain$Chain", "amounts", "[I", true)
  | 5 => ("DecisionChain$Chain", "percents", "[I", true)
  | 6 => ("DecisionChain$Chain", "tells", "[I", true)
  | _ => ("DecisionChain$Chain", "told", "[I", true)
def tyX0 : Nat → FieldType := fun k => match k with
  | 0 => .int
  | 1 => .int
  | 2 => .array .int
  | 3 => .array .int
  | 4 => .array .int
  | 5 => .array .int
  | 6 => .array .int
  | _ => .array .int
theorem nmX0 : ∀ a, a < 8 → ∀ b, b < 8 → a ≠ b → (TX0 a).2.1 ≠ (TX0 b).2.1 := by decide +kernel
theorem tyX0_ok : ∀ k, k < 8 → parseFieldDescriptor (TX0 k).2.2.1 = some (tyX0 k) := by decide +kernel
abbrev cX0_init : ByteArray := prog_2_method_1_code
def yX0_init : MethodName := ⟨RX0, "<init>", "()V"⟩
abbrev cX0_clear : ByteArray := prog_2_method_2_code
def yX0_clear : MethodName := ⟨RX0, "clear", "()V"⟩
abbrev cX0_copyFrom : ByteArray := prog_2_method_3_code
def yX0_copyFrom : MethodName := ⟨RX0, "copyFrom", "(LDecisionChain$Chain;)V"⟩
abbrev cX0_amountOf : ByteArray := prog_2_method_4_code
def yX0_amountOf : MethodName := ⟨RX0, "amountOf", "(II)I"⟩
abbrev cX0_percentTo : ByteArray := prog_2_method_5_code
def yX0_percentTo : MethodName := ⟨RX0, "percentTo", "(II)I"⟩
abbrev cX0_tell : ByteArray := prog_2_method_6_code
def yX0_tell : MethodName := ⟨RX0, "tell", "(III)V"⟩
abbrev cX0_countActions : ByteArray := prog_2_method_7_code
def yX0_countActions : MethodName := ⟨RX0, "countActions", "()I"⟩
def RX1 : String := "DecisionChain$Flows"
def TX1 : u_T := fun k => match k with
  | 0 => ("DecisionChain$Flows", "chain", "LDecisionChain$Chain;", true)
  | 1 => ("DecisionChain$Flows", "start", "I", false)
  | 2 => ("DecisionChain$Flows", "horizon", "I", false)
  | 3 => ("DecisionChain$Flows", "parts", "[J", true)
  | 4 => ("DecisionChain$Flows", "flow", "[J", true)
  | 5 => ("DecisionChain$Flows", "missing", "[J", true)
  | _ => ("DecisionChain$Flows", "chances", "[J", true)
def tyX1 : Nat → FieldType := fun k => match k with
  | 0 => .object "DecisionChain$Chain"
  | 1 => .int
  | 2 => .int
  | 3 => .array .long
  | 4 => .array .long
  | 5 => .array .long
  | _ => .array .long
theorem nmX1 : ∀ a, a < 7 → ∀ b, b < 7 → a ≠ b → (TX1 a).2.1 ≠ (TX1 b).2.1 := by decide +kernel
theorem tyX1_ok : ∀ k, k < 7 → parseFieldDescriptor (TX1 k).2.2.1 = some (tyX1 k) := by decide +kernel
abbrev cX1_init : ByteArray := prog_3_method_1_code
def yX1_init : MethodName := ⟨RX1, "<init>", "(LDecisionChain$Chain;)V"⟩
abbrev cX1_follow : ByteArray := prog_3_method_2_code
def yX1_follow : MethodName := ⟨RX1, "follow", "([III)V"⟩
abbrev cX1_fillParts : ByteArray := prog_3_method_3_code
def yX1_fillParts : MethodName := ⟨RX1, "fillParts", "([I)V"⟩
abbrev cX1_addParts : ByteArray := prog_3_method_4_code
def yX1_addParts : MethodName := ⟨RX1, "addParts", "(III)V"⟩
abbrev cX1_spread : ByteArray := prog_3_method_5_code
def yX1_spread : MethodName := ⟨RX1, "spread", "([JI)V"⟩
abbrev cX1_partsTo : ByteArray := prog_3_method_6_code
def yX1_partsTo : MethodName := ⟨RX1, "partsTo", "(II)J"⟩
abbrev cX1_nextStates : ByteArray := prog_3_method_7_code
def yX1_nextStates : MethodName := ⟨RX1, "nextStates", "(I)I"⟩
abbrev cX1_at : ByteArray := prog_3_method_8_code
def yX1_at : MethodName := ⟨RX1, "at", "(II)J"⟩
abbrev cX1_visitsOf : ByteArray := prog_3_method_9_code
def yX1_visitsOf : MethodName := ⟨RX1, "visitsOf", "(I)J"⟩
abbrev cX1_sumOf : ByteArray := prog_3_method_10_code
def yX1_sumOf : MethodName := ⟨RX1, "sumOf", "(II)J"⟩
abbrev cX1_rankOf : ByteArray := prog_3_method_11_code
def yX1_rankOf : MethodName := ⟨RX1, "rankOf", "(I)I"⟩
abbrev cX1_hitOf : ByteArray := prog_3_method_12_code
def yX1_hitOf : MethodName := ⟨RX1, "hitOf", "(I)J"⟩
abbrev cX1_gainOf : ByteArray := prog_3_method_13_code
def yX1_gainOf : MethodName := ⟨RX1, "gainOf", "([I)J"⟩
abbrev cX1_usedOf : ByteArray := prog_3_method_14_code
def yX1_usedOf : MethodName := ⟨RX1, "usedOf", "([II)J"⟩
abbrev cX1_greatestChance : ByteArray := prog_3_method_15_code
def yX1_greatestChance : MethodName := ⟨RX1, "greatestChance", "()J"⟩
abbrev cX1_stateOfLikeliest : ByteArray := prog_3_method_16_code
def yX1_stateOfLikeliest : MethodName := ⟨RX1, "stateOfLikeliest", "(I)I"⟩
abbrev cX1_fillChances : ByteArray := prog_3_method_17_code
def yX1_fillChances : MethodName := ⟨RX1, "fillChances", "()V"⟩
abbrev cX1_chanceOver : ByteArray := prog_3_method_18_code
def yX1_chanceOver : MethodName := ⟨RX1, "chanceOver", "(III)J"⟩
abbrev cX1_likeliestNext : ByteArray := prog_3_method_19_code
def yX1_likeliestNext : MethodName := ⟨RX1, "likeliestNext", "(II)I"⟩
def RX2 : String := "DecisionChain$Input"
def TX2 : u_T := fun k => match k with
  | 0 => ("DecisionChain$Input", "bytes", "[B", true)
  | 1 => ("DecisionChain$Input", "count", "I", false)
  | 2 => ("DecisionChain$Input", "limit", "I", false)
  | 3 => ("DecisionChain$Input", "kind", "I", false)
  | 4 => ("DecisionChain$Input", "at", "I", false)
  | 5 => ("DecisionChain$Input", "end", "I", false)
  | _ => ("DecisionChain$Input", "number", "I", false)
def tyX2 : Nat → FieldType := fun k => match k with
  | 0 => .array .byte
  | 1 => .int
  | 2 => .int
  | 3 => .int
  | 4 => .int
  | 5 => .int
  | _ => .int
theorem nmX2 : ∀ a, a < 7 → ∀ b, b < 7 → a ≠ b → (TX2 a).2.1 ≠ (TX2 b).2.1 := by decide +kernel
theorem tyX2_ok : ∀ k, k < 7 → parseFieldDescriptor (TX2 k).2.2.1 = some (tyX2 k) := by decide +kernel
abbrev cX2_init : ByteArray := prog_4_method_1_code
def yX2_init : MethodName := ⟨RX2, "<init>", "()V"⟩
abbrev cX2_hasRoom : ByteArray := prog_4_method_2_code
def yX2_hasRoom : MethodName := ⟨RX2, "hasRoom", "(I)Z"⟩
abbrev cX2_put : ByteArray := prog_4_method_3_code
def yX2_put : MethodName := ⟨RX2, "put", "(I)V"⟩
abbrev cX2_begin : ByteArray := prog_4_method_4_code
def yX2_begin : MethodName := ⟨RX2, "begin", "(I)V"⟩
abbrev cX2_advance : ByteArray := prog_4_method_5_code
def yX2_advance : MethodName := ⟨RX2, "advance", "()V"⟩
abbrev cX2_isWord : ByteArray := prog_4_method_6_code
def yX2_isWord : MethodName := ⟨RX2, "isWord", "(Ljava/lang/String;)Z"⟩
abbrev cX2_isLetter : ByteArray := prog_4_method_7_code
def yX2_isLetter : MethodName := ⟨RX2, "isLetter", "(I)Z"⟩
abbrev cX2_isDigit : ByteArray := prog_4_method_8_code
def yX2_isDigit : MethodName := ⟨RX2, "isDigit", "(I)Z"⟩
def RX3 : String := "DecisionChain$Keeper"
def TX3 : u_T := fun k => match k with
  | 0 => ("DecisionChain$Keeper", "changes", "I", false)
  | 1 => ("DecisionChain$Keeper", "before", "[LDecisionChain$Settings;", true)
  | 2 => ("DecisionChain$Keeper", "slots", "[LDecisionChain$Settings;", true)
  | _ => ("DecisionChain$Keeper", "full", "I", false)
def tyX3 : Nat → FieldType := fun k => match k with
  | 0 => .int
  | 1 => .array (.object "DecisionChain$Settings")
  | 2 => .array (.object "DecisionChain$Settings")
  | _ => .int
theorem nmX3 : ∀ a, a < 4 → ∀ b, b < 4 → a ≠ b → (TX3 a).2.1 ≠ (TX3 b).2.1 := by decide +kernel
theorem tyX3_ok : ∀ k, k < 4 → parseFieldDescriptor (TX3 k).2.2.1 = some (tyX3 k) := by decide +kernel
abbrev cX3_init : ByteArray := prog_5_method_1_code
def yX3_init : MethodName := ⟨RX3, "<init>", "()V"⟩
abbrev cX3_forget : ByteArray := prog_5_method_2_code
def yX3_forget : MethodName := ⟨RX3, "forget", "()V"⟩
abbrev cX3_keep : ByteArray := prog_5_method_3_code
def yX3_keep : MethodName := ⟨RX3, "keep", "(LDecisionChain$Settings;)V"⟩
abbrev cX3_giveBack : ByteArray := prog_5_method_4_code
def yX3_giveBack : MethodName := ⟨RX3, "giveBack", "(LDecisionChain$Settings;)V"⟩
abbrev cX3_dropOldest : ByteArray := prog_5_method_5_code
def yX3_dropOldest : MethodName := ⟨RX3, "dropOldest", "()V"⟩
abbrev cX3_isFull : ByteArray := prog_5_method_6_code
def yX3_isFull : MethodName := ⟨RX3, "isFull", "(I)Z"⟩
abbrev cX3_put : ByteArray := prog_5_method_7_code
def yX3_put : MethodName := ⟨RX3, "put", "(ILDecisionChain$Settings;)V"⟩
abbrev cX3_take : ByteArray := prog_5_method_8_code
def yX3_take : MethodName := ⟨RX3, "take", "(ILDecisionChain$Settings;)V"⟩
def RX4 : String := "DecisionChain$Parser"
def TX4 : u_T := fun k => match k with
  | 0 => ("DecisionChain$Parser", "chain", "LDecisionChain$Chain;", true)
  | 1 => ("DecisionChain$Parser", "settings", "LDecisionChain$Settings;", true)
  | 2 => ("DecisionChain$Parser", "error", "I", false)
  | 3 => ("DecisionChain$Parser", "errorAt", "I", false)
  | 4 => ("DecisionChain$Parser", "input", "LDecisionChain$Input;", true)
  | 5 => ("DecisionChain$Parser", "taken", "I", false)
  | _ => ("DecisionChain$Parser", "ruled", "I", false)
def tyX4 : Nat → FieldType := fun k => match k with
  | 0 => .object "DecisionChain$Chain"
  | 1 => .object "DecisionChain$Settings"
  | 2 => .int
  | 3 => .int
  | 4 => .object "DecisionChain$Input"
  | 5 => .int
  | _ => .int
theorem nmX4 : ∀ a, a < 7 → ∀ b, b < 7 → a ≠ b → (TX4 a).2.1 ≠ (TX4 b).2.1 := by decide +kernel
theorem tyX4_ok : ∀ k, k < 7 → parseFieldDescriptor (TX4 k).2.2.1 = some (tyX4 k) := by decide +kernel
abbrev cX4_init : ByteArray := prog_6_method_1_code
def yX4_init : MethodName := ⟨RX4, "<init>", "(LDecisionChain$Input;)V"⟩
abbrev cX4_parse : ByteArray := prog_6_method_2_code
def yX4_parse : MethodName := ⟨RX4, "parse", "(I)Z"⟩
abbrev cX4_fail : ByteArray := prog_6_method_3_code
def yX4_fail : MethodName := ⟨RX4, "fail", "(I)Z"⟩
abbrev cX4_takeWord : ByteArray := prog_6_method_4_code
def yX4_takeWord : MethodName := ⟨RX4, "takeWord", "(Ljava/lang/String;)Z"⟩
abbrev cX4_seeNumber : ByteArray := prog_6_method_5_code
def yX4_seeNumber : MethodName := ⟨RX4, "seeNumber", "(II)Z"⟩
abbrev cX4_takeNumber : ByteArray := prog_6_method_6_code
def yX4_takeNumber : MethodName := ⟨RX4, "takeNumber", "(II)Z"⟩
abbrev cX4_seeState : ByteArray := prog_6_method_7_code
def yX4_seeState : MethodName := ⟨RX4, "seeState", "()Z"⟩
abbrev cX4_parseHead : ByteArray := prog_6_method_8_code
def yX4_parseHead : MethodName := ⟨RX4, "parseHead", "()Z"⟩
abbrev cX4_parseLine : ByteArray := prog_6_method_9_code
def yX4_parseLine : MethodName := ⟨RX4, "parseLine", "()Z"⟩
abbrev cX4_parseBudget : ByteArray := prog_6_method_10_code
def yX4_parseBudget : MethodName := ⟨RX4, "parseBudget", "()Z"⟩
abbrev cX4_parseStart : ByteArray := prog_6_method_11_code
def yX4_parseStart : MethodName := ⟨RX4, "parseStart", "()Z"⟩
abbrev cX4_parseAct : ByteArray := prog_6_method_12_code
def yX4_parseAct : MethodName := ⟨RX4, "parseAct", "()Z"⟩
abbrev cX4_parseGain : ByteArray := prog_6_method_13_code
def yX4_parseGain : MethodName := ⟨RX4, "parseGain", "(I)Z"⟩
abbrev cX4_parseUses : ByteArray := prog_6_method_14_code
def yX4_parseUses : MethodName := ⟨RX4, "parseUses", "(I)Z"⟩
abbrev cX4_parsePercents : ByteArray := prog_6_method_15_code
def yX4_parsePercents : MethodName := ⟨RX4, "parsePercents", "(I)Z"⟩
abbrev cX4_parseRule : ByteArray := prog_6_method_16_code
def yX4_parseRule : MethodName := ⟨RX4, "parseRule", "()Z"⟩
abbrev cX4_parseWeights : ByteArray := prog_6_method_17_code
def yX4_parseWeights : MethodName := ⟨RX4, "parseWeights", "(I)Z"⟩
abbrev cX4_endLine : ByteArray := prog_6_method_18_code
def yX4_endLine : MethodName := ⟨RX4, "endLine", "(I)Z"⟩
abbrev cX4_checkStates : ByteArray := prog_6_method_19_code
def yX4_checkStates : MethodName := ⟨RX4, "checkStates", "()Z"⟩
def RX5 : String := "DecisionChain$PureSets"
def TX5 : u_T := fun k => match k with
  | 0 => ("DecisionChain$PureSets", "chain", "LDecisionChain$Chain;", true)
  | 1 => ("DecisionChain$PureSets", "now", "LDecisionChain$Settings;", true)
  | 2 => ("DecisionChain$PureSets", "flows", "LDecisionChain$Flows;", true)
  | 3 => ("DecisionChain$PureSets", "gains", "[J", true)
  | 4 => ("DecisionChain$PureSets", "used", "[J", true)
  | 5 => ("DecisionChain$PureSets", "madeStart", "I", false)
  | 6 => ("DecisionChain$PureSets", "madeHorizon", "I", false)
  | 7 => ("DecisionChain$PureSets", "set", "I", false)
  | 8 => ("DecisionChain$PureSets", "choice", "[I", true)
  | 9 => ("DecisionChain$PureSets", "weights", "[I", true)
  | _ => ("DecisionChain$PureSets", "best", "[I", true)
def tyX5 : Nat → FieldType := fun k => match k with
  | 0 => .object "DecisionChain$Chain"
  | 1 => .object "DecisionChain$Settings"
  | 2 => .object "DecisionChain$Flows"
  | 3 => .array .long
  | 4 => .array .long
  | 5 => .int
  | 6 => .int
  | 7 => .int
  | 8 => .array .int
  | 9 => .array .int
  | _ => .array .int
theorem nmX5 : ∀ a, a < 11 → ∀ b, b < 11 → a ≠ b → (TX5 a).2.1 ≠ (TX5 b).2.1 := by decide +kernel
theorem tyX5_ok : ∀ k, k < 11 → parseFieldDescriptor (TX5 k).2.2.1 = some (tyX5 k) := by decide +kernel
abbrev cX5_init : ByteArray := prog_7_method_1_code
def yX5_init : MethodName := ⟨RX5, "<init>", "(LDecisionChain$Chain;LDecisionChain$Settings;LDecisionChain$Flows;)V"⟩
abbrev cX5_forget : ByteArray := prog_7_method_2_code
def yX5_forget : MethodName := ⟨RX5, "forget", "()V"⟩
abbrev cX5_findBest : ByteArray := prog_7_method_3_code
def yX5_findBest : MethodName := ⟨RX5, "findBest", "(II)J"⟩
abbrev cX5_countHolding : ByteArray := prog_7_method_4_code
def yX5_countHolding : MethodName := ⟨RX5, "countHolding", "()I"⟩
abbrev cX5_smallestLimit : ByteArray := prog_7_method_5_code
def yX5_smallestLimit : MethodName := ⟨RX5, "smallestLimit", "(I)I"⟩
abbrev cX5_writeWeights : ByteArray := prog_7_method_6_code
def yX5_writeWeights : MethodName := ⟨RX5, "writeWeights", "([I[I)V"⟩
abbrev cX5_fill : ByteArray := prog_7_method_7_code
def yX5_fill : MethodName := ⟨RX5, "fill", "()V"⟩
abbrev cX5_begin : ByteArray := prog_7_method_8_code
def yX5_begin : MethodName := ⟨RX5, "begin", "()Z"⟩
abbrev cX5_moveOn : ByteArray := prog_7_method_9_code
def yX5_moveOn : MethodName := ⟨RX5, "moveOn", "()Z"⟩
abbrev cX5_isPermittedSet : ByteArray := prog_7_method_10_code
def yX5_isPermittedSet : MethodName := ⟨RX5, "isPermittedSet", "()Z"⟩
abbrev cX5_holds : ByteArray := prog_7_method_11_code
def yX5_holds : MethodName := ⟨RX5, "holds", "(II)Z"⟩
abbrev cX5_limitFor : ByteArray := prog_7_method_12_code
def yX5_limitFor : MethodName := ⟨RX5, "limitFor", "(I)I"⟩
def RX6 : String := "DecisionChain$Report"
def TX6 : u_T := fun k => match k with
  | 0 => ("DecisionChain$Report", "bytes", "[B", true)
  | _ => ("DecisionChain$Report", "length", "I", false)
def tyX6 : Nat → FieldType := fun k => match k with
  | 0 => .array .byte
  | _ => .int
theorem nmX6 : ∀ a, a < 2 → ∀ b, b < 2 → a ≠ b → (TX6 a).2.1 ≠ (TX6 b).2.1 := by decide +kernel
theorem tyX6_ok : ∀ k, k < 2 → parseFieldDescriptor (TX6 k).2.2.1 = some (tyX6 k) := by decide +kernel
abbrev cX6_init : ByteArray := prog_8_method_1_code
def yX6_init : MethodName := ⟨RX6, "<init>", "()V"⟩
abbrev cX6_addPart : ByteArray := prog_8_method_2_code
def yX6_addPart : MethodName := ⟨RX6, "addPart", "(IJ)V"⟩
abbrev cX6_addNumber : ByteArray := prog_8_method_3_code
def yX6_addNumber : MethodName := ⟨RX6, "addNumber", "(J)V"⟩
abbrev cX6_addByte : ByteArray := prog_8_method_4_code
def yX6_addByte : MethodName := ⟨RX6, "addByte", "(I)V"⟩
def RX7 : String := "DecisionChain$Settings"
def TX7 : u_T := fun k => match k with
  | 0 => ("DecisionChain$Settings", "weights", "[I", true)
  | 1 => ("DecisionChain$Settings", "permitted", "[I", true)
  | 2 => ("DecisionChain$Settings", "limits", "[I", true)
  | 3 => ("DecisionChain$Settings", "start", "I", false)
  | 4 => ("DecisionChain$Settings", "horizon", "I", false)
  | 5 => ("DecisionChain$Settings", "seed", "I", false)
  | 6 => ("DecisionChain$Settings", "walkSteps", "I", false)
  | 7 => ("DecisionChain$Settings", "walkStates", "[I", true)
  | _ => ("DecisionChain$Settings", "walkActions", "[I", true)
def tyX7 : Nat → FieldType := fun k => match k with
  | 0 => .array .int
  | 1 => .array .int
  | 2 => .array .int
  | 3 => .int
  | 4 => .int
  | 5 => .int
  | 6 => .int
  | 7 => .array .int
  | _ => .array .int
theorem nmX7 : ∀ a, a < 9 → ∀ b, b < 9 → a ≠ b → (TX7 a).2.1 ≠ (TX7 b).2.1 := by decide +kernel
theorem tyX7_ok : ∀ k, k < 9 → parseFieldDescriptor (TX7 k).2.2.1 = some (tyX7 k) := by decide +kernel
abbrev cX7_init : ByteArray := prog_9_method_1_code
def yX7_init : MethodName := ⟨RX7, "<init>", "()V"⟩
abbrev cX7_clear : ByteArray := prog_9_method_2_code
def yX7_clear : MethodName := ⟨RX7, "clear", "()V"⟩
abbrev cX7_copyFrom : ByteArray := prog_9_method_3_code
def yX7_copyFrom : MethodName := ⟨RX7, "copyFrom", "(LDecisionChain$Settings;)V"⟩
abbrev cX7_permits : ByteArray := prog_9_method_4_code
def yX7_permits : MethodName := ⟨RX7, "permits", "(II)Z"⟩
abbrev cX7_walkRow : ByteArray := prog_9_method_5_code
def yX7_walkRow : MethodName := ⟨RX7, "walkRow", "(I)I"⟩
def RX8 : String := "DecisionChain$Spending"
def TX8 : u_T := fun k => match k with
  | 0 => ("DecisionChain$Spending", "chain", "LDecisionChain$Chain;", true)
  | 1 => ("DecisionChain$Spending", "here", "[J", false)
  | 2 => ("DecisionChain$Spending", "later", "[J", false)
  | _ => ("DecisionChain$Spending", "greatest", "[I", true)
def tyX8 : Nat → FieldType := fun k => match k with
  | 0 => .object "DecisionChain$Chain"
  | 1 => .array .long
  | 2 => .array .long
  | _ => .array .int
theorem nmX8 : ∀ a, a < 4 → ∀ b, b < 4 → a ≠ b → (TX8 a).2.1 ≠ (TX8 b).2.1 := by decide +kernel
theorem tyX8_ok : ∀ k, k < 4 → parseFieldDescriptor (TX8 k).2.2.1 = some (tyX8 k) := by decide +kernel
abbrev cX8_init : ByteArray := prog_10_method_1_code
def yX8_init : MethodName := ⟨RX8, "<init>", "(LDecisionChain$Chain;)V"⟩
abbrev cX8_chanceWithin : ByteArray := prog_10_method_2_code
def yX8_chanceWithin : MethodName := ⟨RX8, "chanceWithin", "(LDecisionChain$Settings;I)J"⟩
abbrev cX8_spendFrom : ByteArray := prog_10_method_3_code
def yX8_spendFrom : MethodName := ⟨RX8, "spendFrom", "([IIII)V"⟩
abbrev cX8_spendTo : ByteArray := prog_10_method_4_code
def yX8_spendTo : MethodName := ⟨RX8, "spendTo", "(IJI)V"⟩
abbrev cX8_greatest : ByteArray := prog_10_method_5_code
def yX8_greatest : MethodName := ⟨RX8, "greatest", "(LDecisionChain$Settings;I)I"⟩
abbrev cX8_greatestFrom : ByteArray := prog_10_method_6_code
def yX8_greatestFrom : MethodName := ⟨RX8, "greatestFrom", "([IIII)I"⟩
def RX9 : String := "DecisionChain$Values"
def TX9 : u_T := fun k => match k with
  | 0 => ("DecisionChain$Values", "chain", "LDecisionChain$Chain;", true)
  | 1 => ("DecisionChain$Values", "now", "LDecisionChain$Settings;", true)
  | _ => ("DecisionChain$Values", "values", "[J", true)
def tyX9 : Nat → FieldType := fun k => match k with
  | 0 => .object "DecisionChain$Chain"
  | 1 => .object "DecisionChain$Settings"
  | _ => .array .long
theorem nmX9 : ∀ a, a < 3 → ∀ b, b < 3 → a ≠ b → (TX9 a).2.1 ≠ (TX9 b).2.1 := by decide +kernel
theorem tyX9_ok : ∀ k, k < 3 → parseFieldDescriptor (TX9 k).2.2.1 = some (tyX9 k) := by decide +kernel
abbrev cX9_init : ByteArray := prog_11_method_1_code
def yX9_init : MethodName := ⟨RX9, "<init>", "(LDecisionChain$Chain;LDecisionChain$Settings;)V"⟩
abbrev cX9_fill : ByteArray := prog_11_method_2_code
def yX9_fill : MethodName := ⟨RX9, "fill", "()V"⟩
abbrev cX9_of : ByteArray := prog_11_method_3_code
def yX9_of : MethodName := ⟨RX9, "of", "(II)J"⟩
abbrev cX9_firstAction : ByteArray := prog_11_method_4_code
def yX9_firstAction : MethodName := ⟨RX9, "firstAction", "(II)I"⟩
abbrev cX9_valueOver : ByteArray := prog_11_method_5_code
def yX9_valueOver : MethodName := ⟨RX9, "valueOver", "(II)J"⟩
def RX10 : String := "DecisionChain$Walker"
def TX10 : u_T := fun k => match k with
  | 0 => ("DecisionChain$Walker", "chain", "LDecisionChain$Chain;", true)
  | 1 => ("DecisionChain$Walker", "seed", "I", false)
  | 2 => ("DecisionChain$Walker", "state", "I", false)
  | _ => ("DecisionChain$Walker", "action", "I", false)
def tyX10 : Nat → FieldType := fun k => match k with
  | 0 => .object "DecisionChain$Chain"
  | 1 => .int
  | 2 => .int
  | _ => .int
theorem nmX10 : ∀ a, a < 4 → ∀ b, b < 4 → a ≠ b → (TX10 a).2.1 ≠ (TX10 b).2.1 := by decide +kernel
theorem tyX10_ok : ∀ k, k < 4 → parseFieldDescriptor (TX10 k).2.2.1 = some (tyX10 k) := by decide +kernel
abbrev cX10_init : ByteArray := prog_12_method_1_code
def yX10_init : MethodName := ⟨RX10, "<init>", "(LDecisionChain$Chain;)V"⟩
abbrev cX10_step : ByteArray := prog_12_method_2_code
def yX10_step : MethodName := ⟨RX10, "step", "([I)V"⟩
abbrev cX10_gainOfNext : ByteArray := prog_12_method_3_code
def yX10_gainOfNext : MethodName := ⟨RX10, "gainOfNext", "(LDecisionChain$Settings;)I"⟩
abbrev cX10_draw : ByteArray := prog_12_method_4_code
def yX10_draw : MethodName := ⟨RX10, "draw", "()I"⟩
abbrev cX10_drawAction : ByteArray := prog_12_method_5_code
def yX10_drawAction : MethodName := ⟨RX10, "drawAction", "([II)I"⟩
abbrev cX10_drawNext : ByteArray := prog_12_method_6_code
def yX10_drawNext : MethodName := ⟨RX10, "drawNext", "(II)I"⟩
def RX11 : String := "DecisionChain"
def TX11 : u_T := fun k => match k with
  | 0 => ("DecisionChain", "input", "LDecisionChain$Input;", true)
  | 1 => ("DecisionChain", "parser", "LDecisionChain$Parser;", true)
  | 2 => ("DecisionChain", "chain", "LDecisionChain$Chain;", true)
  | 3 => ("DecisionChain", "now", "LDecisionChain$Settings;", true)
  | 4 => ("DecisionChain", "keeper", "LDecisionChain$Keeper;", true)
  | 5 => ("DecisionChain", "flows", "LDecisionChain$Flows;", true)
  | 6 => ("DecisionChain", "spending", "LDecisionChain$Spending;", true)
  | 7 => ("DecisionChain", "pure", "LDecisionChain$PureSets;", true)
  | 8 => ("DecisionChain", "values", "LDecisionChain$Values;", true)
  | 9 => ("DecisionChain", "walker", "LDecisionChain$Walker;", true)
  | 10 => ("DecisionChain", "text", "LDecisionChain$Report;", true)
  | _ => ("DecisionChain", "trial", "[I", true)
def tyX11 : Nat → FieldType := fun k => match k with
  | 0 => .object "DecisionChain$Input"
  | 1 => .object "DecisionChain$Parser"
  | 2 => .object "DecisionChain$Chain"
  | 3 => .object "DecisionChain$Settings"
  | 4 => .object "DecisionChain$Keeper"
  | 5 => .object "DecisionChain$Flows"
  | 6 => .object "DecisionChain$Spending"
  | 7 => .object "DecisionChain$PureSets"
  | 8 => .object "DecisionChain$Values"
  | 9 => .object "DecisionChain$Walker"
  | 10 => .object "DecisionChain$Report"
  | _ => .array .int
theorem nmX11 : ∀ a, a < 12 → ∀ b, b < 12 → a ≠ b → (TX11 a).2.1 ≠ (TX11 b).2.1 := by decide +kernel
theorem tyX11_ok : ∀ k, k < 12 → parseFieldDescriptor (TX11 k).2.2.1 = some (tyX11 k) := by decide +kernel
abbrev cX11_init : ByteArray := prog_1_method_1_code
def yX11_init : MethodName := ⟨RX11, "<init>", "()V"⟩
abbrev cX11_append : ByteArray := prog_1_method_2_code
def yX11_append : MethodName := ⟨RX11, "append", "(IIIII)I"⟩
abbrev cX11_load : ByteArray := prog_1_method_3_code
def yX11_load : MethodName := ⟨RX11, "load", "(I)I"⟩
abbrev cX11_parseError : ByteArray := prog_1_method_4_code
def yX11_parseError : MethodName := ⟨RX11, "parseError", "()I"⟩
abbrev cX11_errorPosition : ByteArray := prog_1_method_5_code
def yX11_errorPosition : MethodName := ⟨RX11, "errorPosition", "()I"⟩
abbrev cX11_buffered : ByteArray := prog_1_method_6_code
def yX11_buffered : MethodName := ⟨RX11, "buffered", "()I"⟩
abbrev cX11_states : ByteArray := prog_1_method_7_code
def yX11_states : MethodName := ⟨RX11, "states", "()I"⟩
abbrev cX11_budgets : ByteArray := prog_1_method_8_code
def yX11_budgets : MethodName := ⟨RX11, "budgets", "()I"⟩
abbrev cX11_horizon : ByteArray := prog_1_method_9_code
def yX11_horizon : MethodName := ⟨RX11, "horizon", "()I"⟩
abbrev cX11_start : ByteArray := prog_1_method_10_code
def yX11_start : MethodName := ⟨RX11, "start", "()I"⟩
abbrev cX11_actions : ByteArray := prog_1_method_11_code
def yX11_actions : MethodName := ⟨RX11, "actions", "(I)I"⟩
abbrev cX11_gain : ByteArray := prog_1_method_12_code
def yX11_gain : MethodName := ⟨RX11, "gain", "(II)I"⟩
abbrev cX11_uses : ByteArray := prog_1_method_13_code
def yX11_uses : MethodName := ⟨RX11, "uses", "(III)I"⟩
abbrev cX11_percent : ByteArray := prog_1_method_14_code
def yX11_percent : MethodName := ⟨RX11, "percent", "(III)I"⟩
abbrev cX11_weight : ByteArray := prog_1_method_15_code
def yX11_weight : MethodName := ⟨RX11, "weight", "(II)I"⟩
abbrev cX11_isPermitted : ByteArray := prog_1_method_16_code
def yX11_isPermitted : MethodName := ⟨RX11, "isPermitted", "(II)Z"⟩
abbrev cX11_limit : ByteArray := prog_1_method_17_code
def yX11_limit : MethodName := ⟨RX11, "limit", "(I)I"⟩
abbrev cX11_reach : ByteArray := prog_1_method_18_code
def yX11_reach : MethodName := ⟨RX11, "reach", "(I)I"⟩
abbrev cX11_isClosed : ByteArray := prog_1_method_19_code
def yX11_isClosed : MethodName := ⟨RX11, "isClosed", "(I)Z"⟩
abbrev cX11_flow : ByteArray := prog_1_method_20_code
def yX11_flow : MethodName := ⟨RX11, "flow", "(II)J"⟩
abbrev cX11_use : ByteArray := prog_1_method_21_code
def yX11_use : MethodName := ⟨RX11, "use", "(III)J"⟩
abbrev cX11_visits : ByteArray := prog_1_method_22_code
def yX11_visits : MethodName := ⟨RX11, "visits", "(I)J"⟩
abbrev cX11_hit : ByteArray := prog_1_method_23_code
def yX11_hit : MethodName := ⟨RX11, "hit", "(I)J"⟩
abbrev cX11_unit : ByteArray := prog_1_method_24_code
def yX11_unit : MethodName := ⟨RX11, "unit", "()J"⟩
abbrev cX11_gainOfRun : ByteArray := prog_1_method_25_code
def yX11_gainOfRun : MethodName := ⟨RX11, "gainOfRun", "()J"⟩
abbrev cX11_usedOfRun : ByteArray := prog_1_method_26_code
def yX11_usedOfRun : MethodName := ⟨RX11, "usedOfRun", "(I)J"⟩
abbrev cX11_left : ByteArray := prog_1_method_27_code
def yX11_left : MethodName := ⟨RX11, "left", "(I)J"⟩
abbrev cX11_broken : ByteArray := prog_1_method_28_code
def yX11_broken : MethodName := ⟨RX11, "broken", "()I"⟩
abbrev cX11_within : ByteArray := prog_1_method_29_code
def yX11_within : MethodName := ⟨RX11, "within", "(I)J"⟩
abbrev cX11_mostUsed : ByteArray := prog_1_method_30_code
def yX11_mostUsed : MethodName := ⟨RX11, "mostUsed", "(I)I"⟩
abbrev cX11_firstTime : ByteArray := prog_1_method_31_code
def yX11_firstTime : MethodName := ⟨RX11, "firstTime", "(I)I"⟩
abbrev cX11_busiest : ByteArray := prog_1_method_32_code
def yX11_busiest : MethodName := ⟨RX11, "busiest", "(I)I"⟩
abbrev cX11_meanGain : ByteArray := prog_1_method_33_code
def yX11_meanGain : MethodName := ⟨RX11, "meanGain", "()F"⟩
abbrev cX11_likeliest : ByteArray := prog_1_method_34_code
def yX11_likeliest : MethodName := ⟨RX11, "likeliest", "()J"⟩
abbrev cX11_likeliestAt : ByteArray := prog_1_method_35_code
def yX11_likeliestAt : MethodName := ⟨RX11, "likeliestAt", "(I)I"⟩
abbrev cX11_value : ByteArray := prog_1_method_36_code
def yX11_value : MethodName := ⟨RX11, "value", "(II)J"⟩
abbrev cX11_valueAction : ByteArray := prog_1_method_37_code
def yX11_valueAction : MethodName := ⟨RX11, "valueAction", "(II)I"⟩
abbrev cX11_bestGain : ByteArray := prog_1_method_38_code
def yX11_bestGain : MethodName := ⟨RX11, "bestGain", "()J"⟩
abbrev cX11_bestAction : ByteArray := prog_1_method_39_code
def yX11_bestAction : MethodName := ⟨RX11, "bestAction", "(I)I"⟩
abbrev cX11_pureSets : ByteArray := prog_1_method_40_code
def yX11_pureSets : MethodName := ⟨RX11, "pureSets", "()I"⟩
abbrev cX11_worth : ByteArray := prog_1_method_41_code
def yX11_worth : MethodName := ⟨RX11, "worth", "(II)J"⟩
abbrev cX11_leastLimit : ByteArray := prog_1_method_42_code
def yX11_leastLimit : MethodName := ⟨RX11, "leastLimit", "(I)I"⟩
abbrev cX11_bestWeight : ByteArray := prog_1_method_43_code
def yX11_bestWeight : MethodName := ⟨RX11, "bestWeight", "(III)I"⟩
abbrev cX11_seed : ByteArray := prog_1_method_44_code
def yX11_seed : MethodName := ⟨RX11, "seed", "()I"⟩
abbrev cX11_walked : ByteArray := prog_1_method_45_code
def yX11_walked : MethodName := ⟨RX11, "walked", "(I)I"⟩
abbrev cX11_walkedBy : ByteArray := prog_1_method_46_code
def yX11_walkedBy : MethodName := ⟨RX11, "walkedBy", "(I)I"⟩
abbrev cX11_walkGain : ByteArray := prog_1_method_47_code
def yX11_walkGain : MethodName := ⟨RX11, "walkGain", "()I"⟩
abbrev cX11_walkUsed : ByteArray := prog_1_method_48_code
def yX11_walkUsed : MethodName := ⟨RX11, "walkUsed", "(I)I"⟩
abbrev cX11_gainOfWalks : ByteArray := prog_1_method_49_code
def yX11_gainOfWalks : MethodName := ⟨RX11, "gainOfWalks", "(I)I"⟩
abbrev cX11_report : ByteArray := prog_1_method_50_code
def yX11_report : MethodName := ⟨RX11, "report", "(I)I"⟩
abbrev cX11_reportByte : ByteArray := prog_1_method_51_code
def yX11_reportByte : MethodName := ⟨RX11, "reportByte", "(I)I"⟩
abbrev cX11_setRule : ByteArray := prog_1_method_52_code
def yX11_setRule : MethodName := ⟨RX11, "setRule", "(IIII)I"⟩
abbrev cX11_takeBest : ByteArray := prog_1_method_53_code
def yX11_takeBest : MethodName := ⟨RX11, "takeBest", "()I"⟩
abbrev cX11_permit : ByteArray := prog_1_method_54_code
def yX11_permit : MethodName := ⟨RX11, "permit", "(IIZ)Z"⟩
abbrev cX11_setLimit : ByteArray := prog_1_method_55_code
def yX11_setLimit : MethodName := ⟨RX11, "setLimit", "(II)I"⟩
abbrev cX11_setStart : ByteArray := prog_1_method_56_code
def yX11_setStart : MethodName := ⟨RX11, "setStart", "(I)I"⟩
abbrev cX11_setHorizon : ByteArray := prog_1_method_57_code
def yX11_setHorizon : MethodName := ⟨RX11, "setHorizon", "(I)I"⟩
abbrev cX11_walk : ByteArray := prog_1_method_58_code
def yX11_walk : MethodName := ⟨RX11, "walk", "()I"⟩
abbrev cX11_undo : ByteArray := prog_1_method_59_code
def yX11_undo : MethodName := ⟨RX11, "undo", "()I"⟩
abbrev cX11_undoable : ByteArray := prog_1_method_60_code
def yX11_undoable : MethodName := ⟨RX11, "undoable", "()I"⟩
abbrev cX11_save : ByteArray := prog_1_method_61_code
def yX11_save : MethodName := ⟨RX11, "save", "(I)I"⟩
abbrev cX11_restore : ByteArray := prog_1_method_62_code
def yX11_restore : MethodName := ⟨RX11, "restore", "(I)I"⟩
abbrev cX11_needChain : ByteArray := prog_1_method_63_code
def yX11_needChain : MethodName := ⟨RX11, "needChain", "()V"⟩
abbrev cX11_needState : ByteArray := prog_1_method_64_code
def yX11_needState : MethodName := ⟨RX11, "needState", "(I)V"⟩
abbrev cX11_needAction : ByteArray := prog_1_method_65_code
def yX11_needAction : MethodName := ⟨RX11, "needAction", "(II)V"⟩
abbrev cX11_needBudget : ByteArray := prog_1_method_66_code
def yX11_needBudget : MethodName := ⟨RX11, "needBudget", "(I)V"⟩
abbrev cX11_needTime : ByteArray := prog_1_method_67_code
def yX11_needTime : MethodName := ⟨RX11, "needTime", "(I)V"⟩
abbrev cX11_needWalk : ByteArray := prog_1_method_68_code
def yX11_needWalk : MethodName := ⟨RX11, "needWalk", "()V"⟩
abbrev cX11_needSlot : ByteArray := prog_1_method_69_code
def yX11_needSlot : MethodName := ⟨RX11, "needSlot", "(I)V"⟩
abbrev cX11_needRange : ByteArray := prog_1_method_70_code
def yX11_needRange : MethodName := ⟨RX11, "needRange", "(III)V"⟩
abbrev cX11_rowOf : ByteArray := prog_1_method_71_code
def yX11_rowOf : MethodName := ⟨RX11, "rowOf", "(II)I"⟩
abbrev cX11_copyRow : ByteArray := prog_1_method_72_code
def yX11_copyRow : MethodName := ⟨RX11, "copyRow", "([I[I)V"⟩
abbrev cX11_setWeights : ByteArray := prog_1_method_73_code
def yX11_setWeights : MethodName := ⟨RX11, "setWeights", "([IIIII)V"⟩
abbrev cX11_unitOf : ByteArray := prog_1_method_74_code
def yX11_unitOf : MethodName := ⟨RX11, "unitOf", "(I)J"⟩
abbrev cX11_followRules : ByteArray := prog_1_method_75_code
def yX11_followRules : MethodName := ⟨RX11, "followRules", "()V"⟩
abbrev cX11_brokenWith : ByteArray := prog_1_method_76_code
def yX11_brokenWith : MethodName := ⟨RX11, "brokenWith", "([I)I"⟩
def RX12 : String := "DecisionChainModel"
def TX12 : u_T := fun k => match k with
  | 0 => ("DecisionChainModel", "thrown", "I", false)
  | 1 => ("DecisionChainModel", "hasChain", "Z", false)
  | 2 => ("DecisionChainModel", "s", "[I", true)
  | 3 => ("DecisionChainModel", "stores", "[I", true)
  | 4 => ("DecisionChainModel", "changes", "I", false)
  | 5 => ("DecisionChainModel", "isKept", "[Z", true)
  | 6 => ("DecisionChainModel", "p", "[I", true)
  | 7 => ("DecisionChainModel", "read", "[I", true)
  | 8 => ("DecisionChainModel", "buffer", "[I", true)
  | 9 => ("DecisionChainModel", "buffered", "I", false)
  | 10 => ("DecisionChainModel", "parseError", "I", false)
  | 11 => ("DecisionChainModel", "errorPosition", "I", false)
  | 12 => ("DecisionChainModel", "size", "I", false)
  | 13 => ("DecisionChainModel", "next", "I", false)
  | 14 => ("DecisionChainModel", "from", "I", false)
  | 15 => ("DecisionChainModel", "sort", "I", false)
  | 16 => ("DecisionChainModel", "word", "[I", true)
  | 17 => ("DecisionChainModel", "wordLong", "I", false)
  | 18 => ("DecisionChainModel", "number", "I", false)
  | 19 => ("DecisionChainModel", "wrong", "I", false)
  | 20 => ("DecisionChainModel", "wrongAt", "I", false)
  | 21 => ("DecisionChainModel", "flow", "[J", true)
  | 22 => ("DecisionChainModel", "mass", "[J", true)
  | 23 => ("DecisionChainModel", "massThen", "[J", true)
  | 24 => ("DecisionChainModel", "ahead", "[J", true)
  | 25 => ("DecisionChainModel", "worths", "[J", true)
  | 26 => ("DecisionChainModel", "pure", "[I", true)
  | 27 => ("DecisionChainModel", "bestPure", "[I", true)
  | 28 => ("DecisionChainModel", "holding", "I", false)
  | 29 => ("DecisionChainModel", "bestGain", "J", false)
  | 30 => ("DecisionChainModel", "report", "[I", true)
  | _ => ("DecisionChainModel", "reportLong", "I", false)
def tyX12 : Nat → FieldType := fun k => match k with
  | 0 => .int
  | 1 => .boolean
  | 2 => .array .int
  | 3 => .array .int
  | 4 => .int
  | 5 => .array .boolean
  | 6 => .array .int
  | 7 => .array .int
  | 8 => .array .int
  | 9 => .int
  | 10 => .int
  | 11 => .int
  | 12 => .int
  | 13 => .int
  | 14 => .int
  | 15 => .int
  | 16 => .array .int
  | 17 => .int
  | 18 => .int
  | 19 => .int
  | 20 => .int
  | 21 => .array .long
  | 22 => .array .long
  | 23 => .array .long
  | 24 => .array .long
  | 25 => .array .long
  | 26 => .array .int
  | 27 => .array .int
  | 28 => .int
  | 29 => .long
  | 30 => .array .int
  | _ => .int
theorem nmX12 : ∀ a, a < 32 → ∀ b, b < 32 → a ≠ b → (TX12 a).2.1 ≠ (TX12 b).2.1 := by decide +kernel
theorem tyX12_ok : ∀ k, k < 32 → parseFieldDescriptor (TX12 k).2.2.1 = some (tyX12 k) := by decide +kernel
abbrev cX12_init : ByteArray := prog_14_method_1_code
def yX12_init : MethodName := ⟨RX12, "<init>", "()V"⟩
abbrev cX12_thrown : ByteArray := prog_14_method_2_code
def yX12_thrown : MethodName := ⟨RX12, "thrown", "()I"⟩
abbrev cX12_in : ByteArray := prog_14_method_3_code
def yX12_in : MethodName := ⟨RX12, "in", "(JJJ)Z"⟩
abbrev cX12_refuse : ByteArray := prog_14_method_4_code
def yX12_refuse : MethodName := ⟨RX12, "refuse", "(ZI)Z"⟩
abbrev cX12_noChain : ByteArray := prog_14_method_5_code
def yX12_noChain : MethodName := ⟨RX12, "noChain", "()Z"⟩
abbrev cX12_append : ByteArray := prog_14_method_6_code
def yX12_append : MethodName := ⟨RX12, "append", "(IIIII)I"⟩
abbrev cX12_buffered : ByteArray := prog_14_method_7_code
def yX12_buffered : MethodName := ⟨RX12, "buffered", "()I"⟩
abbrev cX12_parseError : ByteArray := prog_14_method_8_code
def yX12_parseError : MethodName := ⟨RX12, "parseError", "()I"⟩
abbrev cX12_errorPosition : ByteArray := prog_14_method_9_code
def yX12_errorPosition : MethodName := ⟨RX12, "errorPosition", "()I"⟩
abbrev cX12_seen : ByteArray := prog_14_method_10_code
def yX12_seen : MethodName := ⟨RX12, "seen", "(I)I"⟩
abbrev cX12_isLetter : ByteArray := prog_14_method_11_code
def yX12_isLetter : MethodName := ⟨RX12, "isLetter", "(I)Z"⟩
abbrev cX12_isDigit : ByteArray := prog_14_method_12_code
def yX12_isDigit : MethodName := ⟨RX12, "isDigit", "(I)Z"⟩
abbrev cX12_token : ByteArray := prog_14_method_13_code
def yX12_token : MethodName := ⟨RX12, "token", "()V"⟩
abbrev cX12_fails : ByteArray := prog_14_method_14_code
def yX12_fails : MethodName := ⟨RX12, "fails", "(I)V"⟩
abbrev cX12_goesOn : ByteArray := prog_14_method_15_code
def yX12_goesOn : MethodName := ⟨RX12, "goesOn", "()V"⟩
abbrev cX12_isWord : ByteArray := prog_14_method_16_code
def yX12_isWord : MethodName := ⟨RX12, "isWord", "(Ljava/lang/String;)Z"⟩
abbrev cX12_passes : ByteArray := prog_14_method_17_code
def yX12_passes : MethodName := ⟨RX12, "passes", "(Ljava/lang/String;)Z"⟩
abbrev cX12_expects : ByteArray := prog_14_method_18_code
def yX12_expects : MethodName := ⟨RX12, "expects", "(Ljava/lang/String;)V"⟩
abbrev cX12_numberHere : ByteArray := prog_14_method_19_code
def yX12_numberHere : MethodName := ⟨RX12, "numberHere", "(II)I"⟩
abbrev cX12_takes : ByteArray := prog_14_method_20_code
def yX12_takes : MethodName := ⟨RX12, "takes", "(II)I"⟩
abbrev cX12_takes_ : ByteArray := prog_14_method_21_code
def yX12_takes_ : MethodName := ⟨RX12, "takes", "(Ljava/lang/String;II)I"⟩
abbrev cX12_puts : ByteArray := prog_14_method_22_code
def yX12_puts : MethodName := ⟨RX12, "puts", "(II)V"⟩
abbrev cX12_stateHere : ByteArray := prog_14_method_23_code
def yX12_stateHere : MethodName := ⟨RX12, "stateHere", "()I"⟩
abbrev cX12_budgetLine : ByteArray := prog_14_method_24_code
def yX12_budgetLine : MethodName := ⟨RX12, "budgetLine", "()V"⟩
abbrev cX12_actLine : ByteArray := prog_14_method_25_code
def yX12_actLine : MethodName := ⟨RX12, "actLine", "()V"⟩
abbrev cX12_usesRead : ByteArray := prog_14_method_26_code
def yX12_usesRead : MethodName := ⟨RX12, "usesRead", "(I)V"⟩
abbrev cX12_toRead : ByteArray := prog_14_method_27_code
def yX12_toRead : MethodName := ⟨RX12, "toRead", "(II)I"⟩
abbrev cX12_endsAt : ByteArray := prog_14_method_28_code
def yX12_endsAt : MethodName := ⟨RX12, "endsAt", "(Z)V"⟩
abbrev cX12_ruleLine : ByteArray := prog_14_method_29_code
def yX12_ruleLine : MethodName := ⟨RX12, "ruleLine", "()V"⟩
abbrev cX12_startLine : ByteArray := prog_14_method_30_code
def yX12_startLine : MethodName := ⟨RX12, "startLine", "()V"⟩
abbrev cX12_line : ByteArray := prog_14_method_31_code
def yX12_line : MethodName := ⟨RX12, "line", "()V"⟩
abbrev cX12_reads : ByteArray := prog_14_method_32_code
def yX12_reads : MethodName := ⟨RX12, "reads", "(I)V"⟩
abbrev cX12_load : ByteArray := prog_14_method_33_code
def yX12_load : MethodName := ⟨RX12, "load", "(I)I"⟩
abbrev cX12_starts : ByteArray := prog_14_method_34_code
def yX12_starts : MethodName := ⟨RX12, "starts", "()I"⟩
abbrev cX12_told : ByteArray := prog_14_method_35_code
def yX12_told : MethodName := ⟨RX12, "told", "(I)I"⟩
abbrev cX12_isState : ByteArray := prog_14_method_36_code
def yX12_isState : MethodName := ⟨RX12, "isState", "(I)Z"⟩
abbrev cX12_isAction : ByteArray := prog_14_method_37_code
def yX12_isAction : MethodName := ⟨RX12, "isAction", "(II)Z"⟩
abbrev cX12_isBudget : ByteArray := prog_14_method_38_code
def yX12_isBudget : MethodName := ⟨RX12, "isBudget", "(I)Z"⟩
abbrev cX12_noState : ByteArray := prog_14_method_39_code
def yX12_noState : MethodName := ⟨RX12, "noState", "(I)Z"⟩
abbrev cX12_noAction : ByteArray := prog_14_method_40_code
def yX12_noAction : MethodName := ⟨RX12, "noAction", "(II)Z"⟩
abbrev cX12_noBudget : ByteArray := prog_14_method_41_code
def yX12_noBudget : MethodName := ⟨RX12, "noBudget", "(I)Z"⟩
abbrev cX12_states : ByteArray := prog_14_method_42_code
def yX12_states : MethodName := ⟨RX12, "states", "()I"⟩
abbrev cX12_budgets : ByteArray := prog_14_method_43_code
def yX12_budgets : MethodName := ⟨RX12, "budgets", "()I"⟩
abbrev cX12_horizon : ByteArray := prog_14_method_44_code
def yX12_horizon : MethodName := ⟨RX12, "horizon", "()I"⟩
abbrev cX12_undoable : ByteArray := prog_14_method_45_code
def yX12_undoable : MethodName := ⟨RX12, "undoable", "()I"⟩
abbrev cX12_start : ByteArray := prog_14_method_46_code
def yX12_start : MethodName := ⟨RX12, "start", "()I"⟩
abbrev cX12_actions : ByteArray := prog_14_method_47_code
def yX12_actions : MethodName := ⟨RX12, "actions", "(I)I"⟩
abbrev cX12_gainBy : ByteArray := prog_14_method_48_code
def yX12_gainBy : MethodName := ⟨RX12, "gainBy", "(II)I"⟩
abbrev cX12_usesBy : ByteArray := prog_14_method_49_code
def yX12_usesBy : MethodName := ⟨RX12, "usesBy", "(III)I"⟩
abbrev cX12_percentBy : ByteArray := prog_14_method_50_code
def yX12_percentBy : MethodName := ⟨RX12, "percentBy", "(III)I"⟩
abbrev cX12_weightOf : ByteArray := prog_14_method_51_code
def yX12_weightOf : MethodName := ⟨RX12, "weightOf", "(II)I"⟩
abbrev cX12_isPermittedNow : ByteArray := prog_14_method_52_code
def yX12_isPermittedNow : MethodName := ⟨RX12, "isPermittedNow", "(II)Z"⟩
abbrev cX12_gain : ByteArray := prog_14_method_53_code
def yX12_gain : MethodName := ⟨RX12, "gain", "(II)I"⟩
abbrev cX12_uses : ByteArray := prog_14_method_54_code
def yX12_uses : MethodName := ⟨RX12, "uses", "(III)I"⟩
abbrev cX12_percent : ByteArray := prog_14_method_55_code
def yX12_percent : MethodName := ⟨RX12, "percent", "(III)I"⟩
abbrev cX12_weight : ByteArray := prog_14_method_56_code
def yX12_weight : MethodName := ⟨RX12, "weight", "(II)I"⟩
abbrev cX12_isPermitted : ByteArray := prog_14_method_57_code
def yX12_isPermitted : MethodName := ⟨RX12, "isPermitted", "(II)Z"⟩
abbrev cX12_limit : ByteArray := prog_14_method_58_code
def yX12_limit : MethodName := ⟨RX12, "limit", "(I)I"⟩
abbrev cX12_stepOf : ByteArray := prog_14_method_59_code
def yX12_stepOf : MethodName := ⟨RX12, "stepOf", "(II)I"⟩
abbrev cX12_lays : ByteArray := prog_14_method_60_code
def yX12_lays : MethodName := ⟨RX12, "lays", "(I)V"⟩
abbrev cX12_power : ByteArray := prog_14_method_61_code
def yX12_power : MethodName := ⟨RX12, "power", "(II)J"⟩
abbrev cX12_isTime : ByteArray := prog_14_method_62_code
def yX12_isTime : MethodName := ⟨RX12, "isTime", "(I)Z"⟩
abbrev cX12_reachAt : ByteArray := prog_14_method_63_code
def yX12_reachAt : MethodName := ⟨RX12, "reachAt", "(I)I"⟩
abbrev cX12_reach : ByteArray := prog_14_method_64_code
def yX12_reach : MethodName := ⟨RX12, "reach", "(I)I"⟩
abbrev cX12_isClosed : ByteArray := prog_14_method_65_code
def yX12_isClosed : MethodName := ⟨RX12, "isClosed", "(I)Z"⟩
abbrev cX12_flow : ByteArray := prog_14_method_66_code
def yX12_flow : MethodName := ⟨RX12, "flow", "(II)J"⟩
abbrev cX12_use : ByteArray := prog_14_method_67_code
def yX12_use : MethodName := ⟨RX12, "use", "(III)J"⟩
abbrev cX12_together : ByteArray := prog_14_method_68_code
def yX12_together : MethodName := ⟨RX12, "together", "(I)J"⟩
abbrev cX12_visits : ByteArray := prog_14_method_69_code
def yX12_visits : MethodName := ⟨RX12, "visits", "(I)J"⟩
abbrev cX12_hit : ByteArray := prog_14_method_70_code
def yX12_hit : MethodName := ⟨RX12, "hit", "(I)J"⟩
abbrev cX12_unitNow : ByteArray := prog_14_method_71_code
def yX12_unitNow : MethodName := ⟨RX12, "unitNow", "()J"⟩
abbrev cX12_unit : ByteArray := prog_14_method_72_code
def yX12_unit : MethodName := ⟨RX12, "unit", "()J"⟩
abbrev cX12_ofRun : ByteArray := prog_14_method_73_code
def yX12_ofRun : MethodName := ⟨RX12, "ofRun", "(I)J"⟩
abbrev cX12_gainOfRun : ByteArray := prog_14_method_74_code
def yX12_gainOfRun : MethodName := ⟨RX12, "gainOfRun", "()J"⟩
abbrev cX12_usedOfRun : ByteArray := prog_14_method_75_code
def yX12_usedOfRun : MethodName := ⟨RX12, "usedOfRun", "(I)J"⟩
abbrev cX12_leftOf : ByteArray := prog_14_method_76_code
def yX12_leftOf : MethodName := ⟨RX12, "leftOf", "(I)J"⟩
abbrev cX12_left : ByteArray := prog_14_method_77_code
def yX12_left : MethodName := ⟨RX12, "left", "(I)J"⟩
abbrev cX12_brokenNow : ByteArray := prog_14_method_78_code
def yX12_brokenNow : MethodName := ⟨RX12, "brokenNow", "()I"⟩
abbrev cX12_broken : ByteArray := prog_14_method_79_code
def yX12_broken : MethodName := ⟨RX12, "broken", "()I"⟩
abbrev cX12_busiest : ByteArray := prog_14_method_80_code
def yX12_busiest : MethodName := ⟨RX12, "busiest", "(I)I"⟩
abbrev cX12_meanGain : ByteArray := prog_14_method_81_code
def yX12_meanGain : MethodName := ⟨RX12, "meanGain", "()F"⟩
abbrev cX12_firstTime : ByteArray := prog_14_method_82_code
def yX12_firstTime : MethodName := ⟨RX12, "firstTime", "(I)I"⟩
abbrev cX12_laysMass : ByteArray := prog_14_method_83_code
def yX12_laysMass : MethodName := ⟨RX12, "laysMass", "(I)V"⟩
abbrev cX12_stepsMass : ByteArray := prog_14_method_84_code
def yX12_stepsMass : MethodName := ⟨RX12, "stepsMass", "(I)V"⟩
abbrev cX12_goesBy : ByteArray := prog_14_method_85_code
def yX12_goesBy : MethodName := ⟨RX12, "goesBy", "(III)V"⟩
abbrev cX12_massOf : ByteArray := prog_14_method_86_code
def yX12_massOf : MethodName := ⟨RX12, "massOf", "(I)J"⟩
abbrev cX12_within : ByteArray := prog_14_method_87_code
def yX12_within : MethodName := ⟨RX12, "within", "(I)J"⟩
abbrev cX12_mostUsed : ByteArray := prog_14_method_88_code
def yX12_mostUsed : MethodName := ⟨RX12, "mostUsed", "(I)I"⟩
abbrev cX12_laysAhead : ByteArray := prog_14_method_89_code
def yX12_laysAhead : MethodName := ⟨RX12, "laysAhead", "()J"⟩
abbrev cX12_likeliest : ByteArray := prog_14_method_90_code
def yX12_likeliest : MethodName := ⟨RX12, "likeliest", "()J"⟩
abbrev cX12_likeliestAt : ByteArray := prog_14_method_91_code
def yX12_likeliestAt : MethodName := ⟨RX12, "likeliestAt", "(I)I"⟩
abbrev cX12_worthOf : ByteArray := prog_14_method_92_code
def yX12_worthOf : MethodName := ⟨RX12, "worthOf", "(III)J"⟩
abbrev cX12_worthiest : ByteArray := prog_14_method_93_code
def yX12_worthiest : MethodName := ⟨RX12, "worthiest", "(II)I"⟩
abbrev cX12_laysWorths : ByteArray := prog_14_method_94_code
def yX12_laysWorths : MethodName := ⟨RX12, "laysWorths", "(I)V"⟩
abbrev cX12_value : ByteArray := prog_14_method_95_code
def yX12_value : MethodName := ⟨RX12, "value", "(II)J"⟩
abbrev cX12_valueAction : ByteArray := prog_14_method_96_code
def yX12_valueAction : MethodName := ⟨RX12, "valueAction", "(II)I"⟩
abbrev cX12_givesAll : ByteArray := prog_14_method_97_code
def yX12_givesAll : MethodName := ⟨RX12, "givesAll", "(II)V"⟩
abbrev cX12_turns : ByteArray := prog_14_method_98_code
def yX12_turns : MethodName := ⟨RX12, "turns", "()Z"⟩
abbrev cX12_isAllowed : ByteArray := prog_14_method_99_code
def yX12_isAllowed : MethodName := ⟨RX12, "isAllowed", "()Z"⟩
abbrev cX12_beginsPure : ByteArray := prog_14_method_100_code
def yX12_beginsPure : MethodName := ⟨RX12, "beginsPure", "()V"⟩
abbrev cX12_takesPure : ByteArray := prog_14_method_101_code
def yX12_takesPure : MethodName := ⟨RX12, "takesPure", "()V"⟩
abbrev cX12_findsBest : ByteArray := prog_14_method_102_code
def yX12_findsBest : MethodName := ⟨RX12, "findsBest", "()J"⟩
abbrev cX12_keepsBest : ByteArray := prog_14_method_103_code
def yX12_keepsBest : MethodName := ⟨RX12, "keepsBest", "(J)V"⟩
abbrev cX12_bestGain : ByteArray := prog_14_method_104_code
def yX12_bestGain : MethodName := ⟨RX12, "bestGain", "()J"⟩
abbrev cX12_bestAction : ByteArray := prog_14_method_105_code
def yX12_bestAction : MethodName := ⟨RX12, "bestAction", "(I)I"⟩
abbrev cX12_pureSets : ByteArray := prog_14_method_106_code
def yX12_pureSets : MethodName := ⟨RX12, "pureSets", "()I"⟩
abbrev cX12_worth : ByteArray := prog_14_method_107_code
def yX12_worth : MethodName := ⟨RX12, "worth", "(II)J"⟩
abbrev cX12_leastLimit : ByteArray := prog_14_method_108_code
def yX12_leastLimit : MethodName := ⟨RX12, "leastLimit", "(I)I"⟩
abbrev cX12_bestWeight : ByteArray := prog_14_method_109_code
def yX12_bestWeight : MethodName := ⟨RX12, "bestWeight", "(III)I"⟩
abbrev cX12_draws : ByteArray := prog_14_method_110_code
def yX12_draws : MethodName := ⟨RX12, "draws", "(I)I"⟩
abbrev cX12_drawsAction : ByteArray := prog_14_method_111_code
def yX12_drawsAction : MethodName := ⟨RX12, "drawsAction", "(I)I"⟩
abbrev cX12_drawsState : ByteArray := prog_14_method_112_code
def yX12_drawsState : MethodName := ⟨RX12, "drawsState", "(II)I"⟩
abbrev cX12_walks : ByteArray := prog_14_method_113_code
def yX12_walks : MethodName := ⟨RX12, "walks", "()V"⟩
abbrev cX12_ofWalk : ByteArray := prog_14_method_114_code
def yX12_ofWalk : MethodName := ⟨RX12, "ofWalk", "(I)I"⟩
abbrev cX12_seed : ByteArray := prog_14_method_115_code
def yX12_seed : MethodName := ⟨RX12, "seed", "()I"⟩
abbrev cX12_noWalk : ByteArray := prog_14_method_116_code
def yX12_noWalk : MethodName := ⟨RX12, "noWalk", "()Z"⟩
abbrev cX12_walked : ByteArray := prog_14_method_117_code
def yX12_walked : MethodName := ⟨RX12, "walked", "(I)I"⟩
abbrev cX12_walkedBy : ByteArray := prog_14_method_118_code
def yX12_walkedBy : MethodName := ⟨RX12, "walkedBy", "(I)I"⟩
abbrev cX12_walkGain : ByteArray := prog_14_method_119_code
def yX12_walkGain : MethodName := ⟨RX12, "walkGain", "()I"⟩
abbrev cX12_walkUsed : ByteArray := prog_14_method_120_code
def yX12_walkUsed : MethodName := ⟨RX12, "walkUsed", "(I)I"⟩
abbrev cX12_gainOfWalks : ByteArray := prog_14_method_121_code
def yX12_gainOfWalks : MethodName := ⟨RX12, "gainOfWalks", "(I)I"⟩
abbrev cX12_says : ByteArray := prog_14_method_122_code
def yX12_says : MethodName := ⟨RX12, "says", "(I)V"⟩
abbrev cX12_saysNumber : ByteArray := prog_14_method_123_code
def yX12_saysNumber : MethodName := ⟨RX12, "saysNumber", "(J)V"⟩
abbrev cX12_report : ByteArray := prog_14_method_124_code
def yX12_report : MethodName := ⟨RX12, "report", "(I)I"⟩
abbrev cX12_reportByte : ByteArray := prog_14_method_125_code
def yX12_reportByte : MethodName := ⟨RX12, "reportByte", "(I)I"⟩
abbrev cX12_keeps : ByteArray := prog_14_method_126_code
def yX12_keeps : MethodName := ⟨RX12, "keeps", "(I)V"⟩
abbrev cX12_fetches : ByteArray := prog_14_method_127_code
def yX12_fetches : MethodName := ⟨RX12, "fetches", "(I)V"⟩
abbrev cX12_keepsAll : ByteArray := prog_14_method_128_code
def yX12_keepsAll : MethodName := ⟨RX12, "keepsAll", "()V"⟩
abbrev cX12_isWeight : ByteArray := prog_14_method_129_code
def yX12_isWeight : MethodName := ⟨RX12, "isWeight", "(IZ)Z"⟩
abbrev cX12_setRule : ByteArray := prog_14_method_130_code
def yX12_setRule : MethodName := ⟨RX12, "setRule", "(IIII)I"⟩
abbrev cX12_takeBest : ByteArray := prog_14_method_131_code
def yX12_takeBest : MethodName := ⟨RX12, "takeBest", "()I"⟩
abbrev cX12_permitted : ByteArray := prog_14_method_132_code
def yX12_permitted : MethodName := ⟨RX12, "permitted", "(I)I"⟩
abbrev cX12_permit : ByteArray := prog_14_method_133_code
def yX12_permit : MethodName := ⟨RX12, "permit", "(IIZ)Z"⟩
abbrev cX12_setLimit : ByteArray := prog_14_method_134_code
def yX12_setLimit : MethodName := ⟨RX12, "setLimit", "(II)I"⟩
abbrev cX12_setStart : ByteArray := prog_14_method_135_code
def yX12_setStart : MethodName := ⟨RX12, "setStart", "(I)I"⟩
abbrev cX12_setHorizon : ByteArray := prog_14_method_136_code
def yX12_setHorizon : MethodName := ⟨RX12, "setHorizon", "(I)I"⟩
abbrev cX12_walk : ByteArray := prog_14_method_137_code
def yX12_walk : MethodName := ⟨RX12, "walk", "()I"⟩
abbrev cX12_undo : ByteArray := prog_14_method_138_code
def yX12_undo : MethodName := ⟨RX12, "undo", "()I"⟩
abbrev cX12_save : ByteArray := prog_14_method_139_code
def yX12_save : MethodName := ⟨RX12, "save", "(I)I"⟩
abbrev cX12_restore : ByteArray := prog_14_method_140_code
def yX12_restore : MethodName := ⟨RX12, "restore", "(I)I"⟩
def RJ9 : String := "java/lang/Math"
abbrev cJ9_max_7cf53 : ByteArray := prog_19_method_65_code
def yJ9_max_7cf53 : MethodName := ⟨RJ9, "max", "(II)I"⟩
abbrev cJ9_max_f86c9 : ByteArray := prog_19_method_66_code
def yJ9_max_f86c9 : MethodName := ⟨RJ9, "max", "(JJ)J"⟩
abbrev cJ9_min_7cf53 : ByteArray := prog_19_method_69_code
def yJ9_min_7cf53 : MethodName := ⟨RJ9, "min", "(II)I"⟩
def RJ0 : String := "java/lang/String"
abbrev cJ0_length_8abf5 : ByteArray := prog_21_method_54_code
def yJ0_length_8abf5 : MethodName := ⟨RJ0, "length", "()I"⟩
abbrev cJ0_charAt_5068e : ByteArray := prog_21_method_56_code
def yJ0_charAt_5068e : MethodName := ⟨RJ0, "charAt", "(I)C"⟩
abbrev cJ0_coder_7d493 : ByteArray := prog_21_method_152_code
def yJ0_coder_7d493 : MethodName := ⟨RJ0, "coder", "()B"⟩
abbrev cJ0_isLatin1_aae02 : ByteArray := prog_21_method_154_code
def yJ0_isLatin1_aae02 : MethodName := ⟨RJ0, "isLatin1", "()Z"⟩
abbrev cJ0_checkIndex_df160 : ByteArray := prog_21_method_155_code
def yJ0_checkIndex_df160 : MethodName := ⟨RJ0, "checkIndex", "(II)V"⟩
def RJ1 : String := "java/lang/StringLatin1"
abbrev cJ1_charAt_3b067 : ByteArray := prog_22_method_2_code
def yJ1_charAt_3b067 : MethodName := ⟨RJ1, "charAt", "([BI)C"⟩
def RJ2 : String := "java/lang/StringUTF16"
abbrev cJ2_getChar_3b067 : ByteArray := prog_23_method_5_code
def yJ2_getChar_3b067 : MethodName := ⟨RJ2, "getChar", "([BI)C"⟩
abbrev cJ2_length_9d52b : ByteArray := prog_23_method_6_code
def yJ2_length_9d52b : MethodName := ⟨RJ2, "length", "([B)I"⟩
abbrev cJ2_charAt_3b067 : ByteArray := prog_23_method_83_code
def yJ2_charAt_3b067 : MethodName := ⟨RJ2, "charAt", "([BI)C"⟩
abbrev cJ2_checkIndex_2214a : ByteArray := prog_23_method_91_code
def yJ2_checkIndex_2214a : MethodName := ⟨RJ2, "checkIndex", "(I[B)V"⟩
def RJ10 : String := "java/lang/System"
def RJ7 : String := "java/util/Arrays"
abbrev cJ7_fill_d0a16 : ByteArray := prog_26_method_101_code
def yJ7_fill_d0a16 : MethodName := ⟨RJ7, "fill", "([JJ)V"⟩
abbrev cJ7_fill_53178 : ByteArray := prog_26_method_103_code
def yJ7_fill_53178 : MethodName := ⟨RJ7, "fill", "([II)V"⟩
def RJ3 : String := "jdk/internal/util/Preconditions"
abbrev cJ3_checkIndex_8e157 : ByteArray := prog_27_method_11_code
def yJ3_checkIndex_8e157 : MethodName := ⟨RJ3, "checkIndex", "(IILjava/util/function/BiFunction;)I"⟩
def RL : String := "DecisionChainLaw"
abbrev cL_load : ByteArray := method_3_code
def yL_load : MethodName := ⟨RL, "load", "(LDecisionChain;I[J)I"⟩
abbrev cL_start : ByteArray := method_4_code
def yL_start : MethodName := ⟨RL, "start", "(LDecisionChain;[J)I"⟩
abbrev cL_actions : ByteArray := method_5_code
def yL_actions : MethodName := ⟨RL, "actions", "(LDecisionChain;I[J)I"⟩
abbrev cL_gain : ByteArray := method_6_code
def yL_gain : MethodName := ⟨RL, "gain", "(LDecisionChain;II[J)I"⟩
abbrev cL_uses : ByteArray := method_7_code
def yL_uses : MethodName := ⟨RL, "uses", "(LDecisionChain;III[J)I"⟩
abbrev cL_percent : ByteArray := method_8_code
def yL_percent : MethodName := ⟨RL, "percent", "(LDecisionChain;III[J)I"⟩
abbrev cL_weight : ByteArray := method_9_code
def yL_weight : MethodName := ⟨RL, "weight", "(LDecisionChain;II[J)I"⟩
abbrev cL_isPermitted : ByteArray := method_10_code
def yL_isPermitted : MethodName := ⟨RL, "isPermitted", "(LDecisionChain;II[J)I"⟩
abbrev cL_limit : ByteArray := method_11_code
def yL_limit : MethodName := ⟨RL, "limit", "(LDecisionChain;I[J)I"⟩
abbrev cL_reach : ByteArray := method_12_code
def yL_reach : MethodName := ⟨RL, "reach", "(LDecisionChain;I[J)I"⟩
abbrev cL_isClosed : ByteArray := method_13_code
def yL_isClosed : MethodName := ⟨RL, "isClosed", "(LDecisionChain;I[J)I"⟩
abbrev cL_flow : ByteArray := method_14_code
def yL_flow : MethodName := ⟨RL, "flow", "(LDecisionChain;II[J)I"⟩
abbrev cL_use : ByteArray := method_15_code
def yL_use : MethodName := ⟨RL, "use", "(LDecisionChain;III[J)I"⟩
abbrev cL_visits : ByteArray := method_16_code
def yL_visits : MethodName := ⟨RL, "visits", "(LDecisionChain;I[J)I"⟩
abbrev cL_hit : ByteArray := method_17_code
def yL_hit : MethodName := ⟨RL, "hit", "(LDecisionChain;I[J)I"⟩
abbrev cL_unit : ByteArray := method_18_code
def yL_unit : MethodName := ⟨RL, "unit", "(LDecisionChain;[J)I"⟩
abbrev cL_gainOfRun : ByteArray := method_19_code
def yL_gainOfRun : MethodName := ⟨RL, "gainOfRun", "(LDecisionChain;[J)I"⟩
abbrev cL_usedOfRun : ByteArray := method_20_code
def yL_usedOfRun : MethodName := ⟨RL, "usedOfRun", "(LDecisionChain;I[J)I"⟩
abbrev cL_left : ByteArray := method_21_code
def yL_left : MethodName := ⟨RL, "left", "(LDecisionChain;I[J)I"⟩
abbrev cL_broken : ByteArray := method_22_code
def yL_broken : MethodName := ⟨RL, "broken", "(LDecisionChain;[J)I"⟩
abbrev cL_within : ByteArray := method_23_code
def yL_within : MethodName := ⟨RL, "within", "(LDecisionChain;I[J)I"⟩
abbrev cL_mostUsed : ByteArray := method_24_code
def yL_mostUsed : MethodName := ⟨RL, "mostUsed", "(LDecisionChain;I[J)I"⟩
abbrev cL_firstTime : ByteArray := method_25_code
def yL_firstTime : MethodName := ⟨RL, "firstTime", "(LDecisionChain;I[J)I"⟩
abbrev cL_busiest : ByteArray := method_26_code
def yL_busiest : MethodName := ⟨RL, "busiest", "(LDecisionChain;I[J)I"⟩
abbrev cL_meanGain : ByteArray := method_27_code
def yL_meanGain : MethodName := ⟨RL, "meanGain", "(LDecisionChain;[D)I"⟩
abbrev cL_likeliest : ByteArray := method_28_code
def yL_likeliest : MethodName := ⟨RL, "likeliest", "(LDecisionChain;[J)I"⟩
abbrev cL_likeliestAt : ByteArray := method_29_code
def yL_likeliestAt : MethodName := ⟨RL, "likeliestAt", "(LDecisionChain;I[J)I"⟩
abbrev cL_value : ByteArray := method_30_code
def yL_value : MethodName := ⟨RL, "value", "(LDecisionChain;II[J)I"⟩
abbrev cL_valueAction : ByteArray := method_31_code
def yL_valueAction : MethodName := ⟨RL, "valueAction", "(LDecisionChain;II[J)I"⟩
abbrev cL_bestGain : ByteArray := method_32_code
def yL_bestGain : MethodName := ⟨RL, "bestGain", "(LDecisionChain;[J)I"⟩
abbrev cL_bestAction : ByteArray := method_33_code
def yL_bestAction : MethodName := ⟨RL, "bestAction", "(LDecisionChain;I[J)I"⟩
abbrev cL_pureSets : ByteArray := method_34_code
def yL_pureSets : MethodName := ⟨RL, "pureSets", "(LDecisionChain;[J)I"⟩
abbrev cL_worth : ByteArray := method_35_code
def yL_worth : MethodName := ⟨RL, "worth", "(LDecisionChain;II[J)I"⟩
abbrev cL_leastLimit : ByteArray := method_36_code
def yL_leastLimit : MethodName := ⟨RL, "leastLimit", "(LDecisionChain;I[J)I"⟩
abbrev cL_bestWeight : ByteArray := method_37_code
def yL_bestWeight : MethodName := ⟨RL, "bestWeight", "(LDecisionChain;III[J)I"⟩
abbrev cL_seed : ByteArray := method_38_code
def yL_seed : MethodName := ⟨RL, "seed", "(LDecisionChain;[J)I"⟩
abbrev cL_walked : ByteArray := method_39_code
def yL_walked : MethodName := ⟨RL, "walked", "(LDecisionChain;I[J)I"⟩
abbrev cL_walkedBy : ByteArray := method_40_code
def yL_walkedBy : MethodName := ⟨RL, "walkedBy", "(LDecisionChain;I[J)I"⟩
abbrev cL_walkGain : ByteArray := method_41_code
def yL_walkGain : MethodName := ⟨RL, "walkGain", "(LDecisionChain;[J)I"⟩
abbrev cL_walkUsed : ByteArray := method_42_code
def yL_walkUsed : MethodName := ⟨RL, "walkUsed", "(LDecisionChain;I[J)I"⟩
abbrev cL_gainOfWalks : ByteArray := method_43_code
def yL_gainOfWalks : MethodName := ⟨RL, "gainOfWalks", "(LDecisionChain;I[J)I"⟩
abbrev cL_report : ByteArray := method_44_code
def yL_report : MethodName := ⟨RL, "report", "(LDecisionChain;I[J)I"⟩
abbrev cL_reportByte : ByteArray := method_45_code
def yL_reportByte : MethodName := ⟨RL, "reportByte", "(LDecisionChain;I[J)I"⟩
abbrev cL_setRule : ByteArray := method_46_code
def yL_setRule : MethodName := ⟨RL, "setRule", "(LDecisionChain;IIII[J)I"⟩
abbrev cL_takeBest : ByteArray := method_47_code
def yL_takeBest : MethodName := ⟨RL, "takeBest", "(LDecisionChain;[J)I"⟩
abbrev cL_permit : ByteArray := method_48_code
def yL_permit : MethodName := ⟨RL, "permit", "(LDecisionChain;IIZ[J)I"⟩
abbrev cL_setLimit : ByteArray := method_49_code
def yL_setLimit : MethodName := ⟨RL, "setLimit", "(LDecisionChain;II[J)I"⟩
abbrev cL_setStart : ByteArray := method_50_code
def yL_setStart : MethodName := ⟨RL, "setStart", "(LDecisionChain;I[J)I"⟩
abbrev cL_setHorizon : ByteArray := method_51_code
def yL_setHorizon : MethodName := ⟨RL, "setHorizon", "(LDecisionChain;I[J)I"⟩
abbrev cL_walk : ByteArray := method_52_code
def yL_walk : MethodName := ⟨RL, "walk", "(LDecisionChain;[J)I"⟩
abbrev cL_undo : ByteArray := method_53_code
def yL_undo : MethodName := ⟨RL, "undo", "(LDecisionChain;[J)I"⟩
abbrev cL_save : ByteArray := method_54_code
def yL_save : MethodName := ⟨RL, "save", "(LDecisionChain;I[J)I"⟩
abbrev cL_restore : ByteArray := method_55_code
def yL_restore : MethodName := ⟨RL, "restore", "(LDecisionChain;I[J)I"⟩
abbrev cL_law : ByteArray := code
def yL_law : MethodName := ⟨RL, "law", "([I)Z"⟩
abbrev vwCl : List vw_C := [(RX0, TX0, 8), (RX1, TX1, 7), (RX2, TX2, 7), (RX3, TX3, 4), (RX4, TX4, 7), (RX5, TX5, 11), (RX6, TX6, 2), (RX7, TX7, 9), (RX8, TX8, 4), (RX9, TX9, 3), (RX10, TX10, 4), (RX11, TX11, 12), (RX12, TX12, 32)]
