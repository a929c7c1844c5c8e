-- ===== PART A: goes FIRST, ahead of the names: the tables' words, and 'selects' of the private methods out of them =====
/-- a private method of a class that the tables say can be made, by its rows of tables_1 -/
def lw_okq (q : MethodName × Nat) : Prop := (q.1.cls ≠ "java/lang/invoke/MethodHandle" ∧ q.1.cls ≠ "java/lang/invoke/VarHandle") ∧ Cond.instantiable q.1.cls q.2 ∈ tables_1 ∧ Cond.privateMethod q.1 ∈ tables_1 ∧ Cond.instanceMethod q.1 ∈ tables_1
theorem lw_p0 : lw_okq (⟨"DecisionChainLaw$Chain", "act", "(LDecisionChainLaw$Draws;II)V"⟩, 17) := ⟨⟨by decide +kernel, by decide +kernel⟩, List.mem_of_getElem? (i := 440) (by decide +kernel), List.mem_of_getElem? (i := 644) (by decide +kernel), List.mem_of_getElem? (i := 645) (by decide +kernel)⟩
theorem lw_p1 : lw_okq (⟨"DecisionChainLaw$Chain", "rule", "(LDecisionChainLaw$Draws;I)V"⟩, 17) := ⟨⟨by decide +kernel, by decide +kernel⟩, List.mem_of_getElem? (i := 440) (by decide +kernel), List.mem_of_getElem? (i := 678) (by decide +kernel), List.mem_of_getElem? (i := 679) (by decide +kernel)⟩
theorem lw_p2 : lw_okq (⟨"java/lang/Throwable", "fillInStackTrace", "(I)Ljava/lang/Throwable;"⟩, 6) := ⟨⟨by decide +kernel, by decide +kernel⟩, List.mem_of_getElem? (i := 844) (by decide +kernel), List.mem_of_getElem? (i := 842) (by decide +kernel), List.mem_of_getElem? (i := 843) (by decide +kernel)⟩
theorem lw_p3 : lw_okq (⟨"DecisionChain$Parser", "parseHead", "()Z"⟩, 7) := ⟨⟨by decide +kernel, by decide +kernel⟩, List.mem_of_getElem? (i := 212) (by decide +kernel), List.mem_of_getElem? (i := 910) (by decide +kernel), List.mem_of_getElem? (i := 911) (by decide +kernel)⟩
theorem lw_p4 : lw_okq (⟨"DecisionChain$Parser", "takeWord", "(Ljava/lang/String;)Z"⟩, 7) := ⟨⟨by decide +kernel, by decide +kernel⟩, List.mem_of_getElem? (i := 212) (by decide +kernel), List.mem_of_getElem? (i := 915) (by decide +kernel), List.mem_of_getElem? (i := 916) (by decide +kernel)⟩
theorem lw_p5 : lw_okq (⟨"DecisionChain$Parser", "fail", "(I)Z"⟩, 7) := ⟨⟨by decide +kernel, by decide +kernel⟩, List.mem_of_getElem? (i := 212) (by decide +kernel), List.mem_of_getElem? (i := 925) (by decide +kernel), List.mem_of_getElem? (i := 926) (by decide +kernel)⟩
theorem lw_p6 : lw_okq (⟨"DecisionChain$Parser", "takeNumber", "(II)Z"⟩, 7) := ⟨⟨by decide +kernel, by decide +kernel⟩, List.mem_of_getElem? (i := 212) (by decide +kernel), List.mem_of_getElem? (i := 931) (by decide +kernel), List.mem_of_getElem? (i := 932) (by decide +kernel)⟩
theorem lw_p7 : lw_okq (⟨"DecisionChain$Parser", "seeNumber", "(II)Z"⟩, 7) := ⟨⟨by decide +kernel, by decide +kernel⟩, List.mem_of_getElem? (i := 212) (by decide +kernel), List.mem_of_getElem? (i := 935) (by decide +kernel), List.mem_of_getElem? (i := 936) (by decide +kernel)⟩
theorem lw_p8 : lw_okq (⟨"DecisionChain$Parser", "parseLine", "()Z"⟩, 7) := ⟨⟨by decide +kernel, by decide +kernel⟩, List.mem_of_getElem? (i := 212) (by decide +kernel), List.mem_of_getElem? (i := 941) (by decide +kernel), List.mem_of_getElem? (i := 942) (by decide +kernel)⟩
theorem lw_p9 : lw_okq (⟨"DecisionChain$Parser", "parseBudget", "()Z"⟩, 7) := ⟨⟨by decide +kernel, by decide +kernel⟩, List.mem_of_getElem? (i := 212) (by decide +kernel), List.mem_of_getElem? (i := 946) (by decide +kernel), List.mem_of_getElem? (i := 947) (by decide +kernel)⟩
theorem lw_p10 : lw_okq (⟨"DecisionChain$Parser", "parseAct", "()Z"⟩, 7) := ⟨⟨by decide +kernel, by decide +kernel⟩, List.mem_of_getElem? (i := 212) (by decide +kernel), List.mem_of_getElem? (i := 951) (by decide +kernel), List.mem_of_getElem? (i := 952) (by decide +kernel)⟩
theorem lw_p11 : lw_okq (⟨"DecisionChain$Parser", "seeState", "()Z"⟩, 7) := ⟨⟨by decide +kernel, by decide +kernel⟩, List.mem_of_getElem? (i := 212) (by decide +kernel), List.mem_of_getElem? (i := 955) (by decide +kernel), List.mem_of_getElem? (i := 956) (by decide +kernel)⟩
theorem lw_p12 : lw_okq (⟨"DecisionChain$Parser", "parseGain", "(I)Z"⟩, 7) := ⟨⟨by decide +kernel, by decide +kernel⟩, List.mem_of_getElem? (i := 212) (by decide +kernel), List.mem_of_getElem? (i := 960) (by decide +kernel), List.mem_of_getElem? (i := 961) (by decide +kernel)⟩
theorem lw_p13 : lw_okq (⟨"DecisionChain$Parser", "parseUses", "(I)Z"⟩, 7) := ⟨⟨by decide +kernel, by decide +kernel⟩, List.mem_of_getElem? (i := 212) (by decide +kernel), List.mem_of_getElem? (i := 964) (by decide +kernel), List.mem_of_getElem? (i := 965) (by decide +kernel)⟩
theorem lw_p14 : lw_okq (⟨"DecisionChain$Parser", "parsePercents", "(I)Z"⟩, 7) := ⟨⟨by decide +kernel, by decide +kernel⟩, List.mem_of_getElem? (i := 212) (by decide +kernel), List.mem_of_getElem? (i := 973) (by decide +kernel), List.mem_of_getElem? (i := 974) (by decide +kernel)⟩
theorem lw_p15 : lw_okq (⟨"DecisionChain$Parser", "endLine", "(I)Z"⟩, 7) := ⟨⟨by decide +kernel, by decide +kernel⟩, List.mem_of_getElem? (i := 212) (by decide +kernel), List.mem_of_getElem? (i := 986) (by decide +kernel), List.mem_of_getElem? (i := 987) (by decide +kernel)⟩
def lw_privs_1 : List (MethodName × Nat) := [(⟨"DecisionChainLaw$Chain", "act", "(LDecisionChainLaw$Draws;II)V"⟩, 17), (⟨"DecisionChainLaw$Chain", "rule", "(LDecisionChainLaw$Draws;I)V"⟩, 17), (⟨"java/lang/Throwable", "fillInStackTrace", "(I)Ljava/lang/Throwable;"⟩, 6), (⟨"DecisionChain$Parser", "parseHead", "()Z"⟩, 7), (⟨"DecisionChain$Parser", "takeWord", "(Ljava/lang/String;)Z"⟩, 7), (⟨"DecisionChain$Parser", "fail", "(I)Z"⟩, 7), (⟨"DecisionChain$Parser", "takeNumber", "(II)Z"⟩, 7), (⟨"DecisionChain$Parser", "seeNumber", "(II)Z"⟩, 7), (⟨"DecisionChain$Parser", "parseLine", "()Z"⟩, 7), (⟨"DecisionChain$Parser", "parseBudget", "()Z"⟩, 7), (⟨"DecisionChain$Parser", "parseAct", "()Z"⟩, 7), (⟨"DecisionChain$Parser", "seeState", "()Z"⟩, 7), (⟨"DecisionChain$Parser", "parseGain", "(I)Z"⟩, 7), (⟨"DecisionChain$Parser", "parseUses", "(I)Z"⟩, 7), (⟨"DecisionChain$Parser", "parsePercents", "(I)Z"⟩, 7), (⟨"DecisionChain$Parser", "endLine", "(I)Z"⟩, 7)]
theorem lw_r1 : ∀ q ∈ lw_privs_1, lw_okq q := List.forall_mem_cons.mpr ⟨lw_p0, List.forall_mem_cons.mpr ⟨lw_p1, List.forall_mem_cons.mpr ⟨lw_p2, List.forall_mem_cons.mpr ⟨lw_p3, List.forall_mem_cons.mpr ⟨lw_p4, List.forall_mem_cons.mpr ⟨lw_p5, List.forall_mem_cons.mpr ⟨lw_p6, List.forall_mem_cons.mpr ⟨lw_p7, List.forall_mem_cons.mpr ⟨lw_p8, List.forall_mem_cons.mpr ⟨lw_p9, List.forall_mem_cons.mpr ⟨lw_p10, List.forall_mem_cons.mpr ⟨lw_p11, List.forall_mem_cons.mpr ⟨lw_p12, List.forall_mem_cons.mpr ⟨lw_p13, List.forall_mem_cons.mpr ⟨lw_p14, List.forall_mem_cons.mpr ⟨lw_p15, fun _ h => absurd h List.not_mem_nil⟩⟩⟩⟩⟩⟩⟩⟩⟩⟩⟩⟩⟩⟩⟩⟩
theorem lw_p16 : lw_okq (⟨"DecisionChain$Parser", "parseRule", "()Z"⟩, 7) := ⟨⟨by decide +kernel, by decide +kernel⟩, List.mem_of_getElem? (i := 212) (by decide +kernel), List.mem_of_getElem? (i := 991) (by decide +kernel), List.mem_of_getElem? (i := 992) (by decide +kernel)⟩
theorem lw_p17 : lw_okq (⟨"DecisionChain$Parser", "parseWeights", "(I)Z"⟩, 7) := ⟨⟨by decide +kernel, by decide +kernel⟩, List.mem_of_getElem? (i := 212) (by decide +kernel), List.mem_of_getElem? (i := 995) (by decide +kernel), List.mem_of_getElem? (i := 996) (by decide +kernel)⟩
theorem lw_p18 : lw_okq (⟨"DecisionChain$Parser", "parseStart", "()Z"⟩, 7) := ⟨⟨by decide +kernel, by decide +kernel⟩, List.mem_of_getElem? (i := 212) (by decide +kernel), List.mem_of_getElem? (i := 999) (by decide +kernel), List.mem_of_getElem? (i := 1000) (by decide +kernel)⟩
theorem lw_p19 : lw_okq (⟨"DecisionChain$Parser", "checkStates", "()Z"⟩, 7) := ⟨⟨by decide +kernel, by decide +kernel⟩, List.mem_of_getElem? (i := 212) (by decide +kernel), List.mem_of_getElem? (i := 1004) (by decide +kernel), List.mem_of_getElem? (i := 1005) (by decide +kernel)⟩
theorem lw_p20 : lw_okq (⟨"DecisionChain", "needAction", "(II)V"⟩, 12) := ⟨⟨by decide +kernel, by decide +kernel⟩, List.mem_of_getElem? (i := 34) (by decide +kernel), List.mem_of_getElem? (i := 1063) (by decide +kernel), List.mem_of_getElem? (i := 1064) (by decide +kernel)⟩
theorem lw_p21 : lw_okq (⟨"DecisionChain", "needState", "(I)V"⟩, 12) := ⟨⟨by decide +kernel, by decide +kernel⟩, List.mem_of_getElem? (i := 34) (by decide +kernel), List.mem_of_getElem? (i := 1067) (by decide +kernel), List.mem_of_getElem? (i := 1068) (by decide +kernel)⟩
theorem lw_p22 : lw_okq (⟨"DecisionChain", "needChain", "()V"⟩, 12) := ⟨⟨by decide +kernel, by decide +kernel⟩, List.mem_of_getElem? (i := 34) (by decide +kernel), List.mem_of_getElem? (i := 1071) (by decide +kernel), List.mem_of_getElem? (i := 1072) (by decide +kernel)⟩
theorem lw_p23 : lw_okq (⟨"DecisionChain", "needBudget", "(I)V"⟩, 12) := ⟨⟨by decide +kernel, by decide +kernel⟩, List.mem_of_getElem? (i := 34) (by decide +kernel), List.mem_of_getElem? (i := 1097) (by decide +kernel), List.mem_of_getElem? (i := 1098) (by decide +kernel)⟩
theorem lw_p24 : lw_okq (⟨"DecisionChain", "needTime", "(I)V"⟩, 12) := ⟨⟨by decide +kernel, by decide +kernel⟩, List.mem_of_getElem? (i := 34) (by decide +kernel), List.mem_of_getElem? (i := 1116) (by decide +kernel), List.mem_of_getElem? (i := 1117) (by decide +kernel)⟩
theorem lw_p25 : lw_okq (⟨"DecisionChain", "followRules", "()V"⟩, 12) := ⟨⟨by decide +kernel, by decide +kernel⟩, List.mem_of_getElem? (i := 34) (by decide +kernel), List.mem_of_getElem? (i := 1124) (by decide +kernel), List.mem_of_getElem? (i := 1125) (by decide +kernel)⟩
theorem lw_p26 : lw_okq (⟨"DecisionChain$Flows", "fillParts", "([I)V"⟩, 7) := ⟨⟨by decide +kernel, by decide +kernel⟩, List.mem_of_getElem? (i := 183) (by decide +kernel), List.mem_of_getElem? (i := 1132) (by decide +kernel), List.mem_of_getElem? (i := 1133) (by decide +kernel)⟩
theorem lw_p27 : lw_okq (⟨"DecisionChain$Flows", "addParts", "(III)V"⟩, 7) := ⟨⟨by decide +kernel, by decide +kernel⟩, List.mem_of_getElem? (i := 183) (by decide +kernel), List.mem_of_getElem? (i := 1140) (by decide +kernel), List.mem_of_getElem? (i := 1141) (by decide +kernel)⟩
theorem lw_p28 : lw_okq (⟨"DecisionChain$Flows", "spread", "([JI)V"⟩, 7) := ⟨⟨by decide +kernel, by decide +kernel⟩, List.mem_of_getElem? (i := 183) (by decide +kernel), List.mem_of_getElem? (i := 1145) (by decide +kernel), List.mem_of_getElem? (i := 1146) (by decide +kernel)⟩
theorem lw_p29 : lw_okq (⟨"DecisionChain$Flows", "partsTo", "(II)J"⟩, 7) := ⟨⟨by decide +kernel, by decide +kernel⟩, List.mem_of_getElem? (i := 183) (by decide +kernel), List.mem_of_getElem? (i := 1149) (by decide +kernel), List.mem_of_getElem? (i := 1150) (by decide +kernel)⟩
theorem lw_p30 : lw_okq (⟨"DecisionChain$Flows", "sumOf", "(II)J"⟩, 7) := ⟨⟨by decide +kernel, by decide +kernel⟩, List.mem_of_getElem? (i := 183) (by decide +kernel), List.mem_of_getElem? (i := 1185) (by decide +kernel), List.mem_of_getElem? (i := 1186) (by decide +kernel)⟩
theorem lw_p31 : lw_okq (⟨"DecisionChain$Flows", "fillChances", "()V"⟩, 7) := ⟨⟨by decide +kernel, by decide +kernel⟩, List.mem_of_getElem? (i := 183) (by decide +kernel), List.mem_of_getElem? (i := 1199) (by decide +kernel), List.mem_of_getElem? (i := 1200) (by decide +kernel)⟩
def lw_privs_2 : List (MethodName × Nat) := [(⟨"DecisionChain$Parser", "parseRule", "()Z"⟩, 7), (⟨"DecisionChain$Parser", "parseWeights", "(I)Z"⟩, 7), (⟨"DecisionChain$Parser", "parseStart", "()Z"⟩, 7), (⟨"DecisionChain$Parser", "checkStates", "()Z"⟩, 7), (⟨"DecisionChain", "needAction", "(II)V"⟩, 12), (⟨"DecisionChain", "needState", "(I)V"⟩, 12), (⟨"DecisionChain", "needChain", "()V"⟩, 12), (⟨"DecisionChain", "needBudget", "(I)V"⟩, 12), (⟨"DecisionChain", "needTime", "(I)V"⟩, 12), (⟨"DecisionChain", "followRules", "()V"⟩, 12), (⟨"DecisionChain$Flows", "fillParts", "([I)V"⟩, 7), (⟨"DecisionChain$Flows", "addParts", "(III)V"⟩, 7), (⟨"DecisionChain$Flows", "spread", "([JI)V"⟩, 7), (⟨"DecisionChain$Flows", "partsTo", "(II)J"⟩, 7), (⟨"DecisionChain$Flows", "sumOf", "(II)J"⟩, 7), (⟨"DecisionChain$Flows", "fillChances", "()V"⟩, 7)]
theorem lw_r2 : ∀ q ∈ lw_privs_2, lw_okq q := List.forall_mem_cons.mpr ⟨lw_p16, List.forall_mem_cons.mpr ⟨lw_p17, List.forall_mem_cons.mpr ⟨lw_p18, List.forall_mem_cons.mpr ⟨lw_p19, List.forall_mem_cons.mpr ⟨lw_p20, List.forall_mem_cons.mpr ⟨lw_p21, List.forall_mem_cons.mpr ⟨lw_p22, List.forall_mem_cons.mpr ⟨lw_p23, List.forall_mem_cons.mpr ⟨lw_p24, List.forall_mem_cons.mpr ⟨lw_p25, List.forall_mem_cons.mpr ⟨lw_p26, List.forall_mem_cons.mpr ⟨lw_p27, List.forall_mem_cons.mpr ⟨lw_p28, List.forall_mem_cons.mpr ⟨lw_p29, List.forall_mem_cons.mpr ⟨lw_p30, List.forall_mem_cons.mpr ⟨lw_p31, fun _ h => absurd h List.not_mem_nil⟩⟩⟩⟩⟩⟩⟩⟩⟩⟩⟩⟩⟩⟩⟩⟩
theorem lw_p32 : lw_okq (⟨"DecisionChain$Flows", "chanceOver", "(III)J"⟩, 7) := ⟨⟨by decide +kernel, by decide +kernel⟩, List.mem_of_getElem? (i := 183) (by decide +kernel), List.mem_of_getElem? (i := 1203) (by decide +kernel), List.mem_of_getElem? (i := 1204) (by decide +kernel)⟩
theorem lw_p33 : lw_okq (⟨"DecisionChain$Flows", "likeliestNext", "(II)I"⟩, 7) := ⟨⟨by decide +kernel, by decide +kernel⟩, List.mem_of_getElem? (i := 183) (by decide +kernel), List.mem_of_getElem? (i := 1210) (by decide +kernel), List.mem_of_getElem? (i := 1211) (by decide +kernel)⟩
theorem lw_p34 : lw_okq (⟨"DecisionChain$Values", "valueOver", "(II)J"⟩, 3) := ⟨⟨by decide +kernel, by decide +kernel⟩, List.mem_of_getElem? (i := 331) (by decide +kernel), List.mem_of_getElem? (i := 1229) (by decide +kernel), List.mem_of_getElem? (i := 1230) (by decide +kernel)⟩
theorem lw_p35 : lw_okq (⟨"DecisionChain$PureSets", "fill", "()V"⟩, 11) := ⟨⟨by decide +kernel, by decide +kernel⟩, List.mem_of_getElem? (i := 290) (by decide +kernel), List.mem_of_getElem? (i := 1258) (by decide +kernel), List.mem_of_getElem? (i := 1259) (by decide +kernel)⟩
theorem lw_p36 : lw_okq (⟨"DecisionChain$PureSets", "begin", "()Z"⟩, 11) := ⟨⟨by decide +kernel, by decide +kernel⟩, List.mem_of_getElem? (i := 290) (by decide +kernel), List.mem_of_getElem? (i := 1262) (by decide +kernel), List.mem_of_getElem? (i := 1263) (by decide +kernel)⟩
theorem lw_p37 : lw_okq (⟨"DecisionChain$PureSets", "moveOn", "()Z"⟩, 11) := ⟨⟨by decide +kernel, by decide +kernel⟩, List.mem_of_getElem? (i := 290) (by decide +kernel), List.mem_of_getElem? (i := 1283) (by decide +kernel), List.mem_of_getElem? (i := 1284) (by decide +kernel)⟩
theorem lw_p38 : lw_okq (⟨"DecisionChain$PureSets", "isPermittedSet", "()Z"⟩, 11) := ⟨⟨by decide +kernel, by decide +kernel⟩, List.mem_of_getElem? (i := 290) (by decide +kernel), List.mem_of_getElem? (i := 1288) (by decide +kernel), List.mem_of_getElem? (i := 1289) (by decide +kernel)⟩
theorem lw_p39 : lw_okq (⟨"DecisionChain$PureSets", "holds", "(II)Z"⟩, 11) := ⟨⟨by decide +kernel, by decide +kernel⟩, List.mem_of_getElem? (i := 290) (by decide +kernel), List.mem_of_getElem? (i := 1293) (by decide +kernel), List.mem_of_getElem? (i := 1294) (by decide +kernel)⟩
theorem lw_p40 : lw_okq (⟨"DecisionChain", "brokenWith", "([I)I"⟩, 12) := ⟨⟨by decide +kernel, by decide +kernel⟩, List.mem_of_getElem? (i := 34) (by decide +kernel), List.mem_of_getElem? (i := 1311) (by decide +kernel), List.mem_of_getElem? (i := 1312) (by decide +kernel)⟩
theorem lw_p41 : lw_okq (⟨"DecisionChain", "needWalk", "()V"⟩, 12) := ⟨⟨by decide +kernel, by decide +kernel⟩, List.mem_of_getElem? (i := 34) (by decide +kernel), List.mem_of_getElem? (i := 1322) (by decide +kernel), List.mem_of_getElem? (i := 1323) (by decide +kernel)⟩
theorem lw_p42 : lw_okq (⟨"DecisionChain$Walker", "draw", "()I"⟩, 4) := ⟨⟨by decide +kernel, by decide +kernel⟩, List.mem_of_getElem? (i := 347) (by decide +kernel), List.mem_of_getElem? (i := 1339) (by decide +kernel), List.mem_of_getElem? (i := 1340) (by decide +kernel)⟩
theorem lw_p43 : lw_okq (⟨"DecisionChain$Walker", "drawAction", "([II)I"⟩, 4) := ⟨⟨by decide +kernel, by decide +kernel⟩, List.mem_of_getElem? (i := 347) (by decide +kernel), List.mem_of_getElem? (i := 1343) (by decide +kernel), List.mem_of_getElem? (i := 1344) (by decide +kernel)⟩
theorem lw_p44 : lw_okq (⟨"DecisionChain$Walker", "drawNext", "(II)I"⟩, 4) := ⟨⟨by decide +kernel, by decide +kernel⟩, List.mem_of_getElem? (i := 347) (by decide +kernel), List.mem_of_getElem? (i := 1348) (by decide +kernel), List.mem_of_getElem? (i := 1349) (by decide +kernel)⟩
theorem lw_p45 : lw_okq (⟨"DecisionChain$Keeper", "dropOldest", "()V"⟩, 4) := ⟨⟨by decide +kernel, by decide +kernel⟩, List.mem_of_getElem? (i := 248) (by decide +kernel), List.mem_of_getElem? (i := 1367) (by decide +kernel), List.mem_of_getElem? (i := 1368) (by decide +kernel)⟩
def lw_privs_3 : List (MethodName × Nat) := [(⟨"DecisionChain$Flows", "chanceOver", "(III)J"⟩, 7), (⟨"DecisionChain$Flows", "likeliestNext", "(II)I"⟩, 7), (⟨"DecisionChain$Values", "valueOver", "(II)J"⟩, 3), (⟨"DecisionChain$PureSets", "fill", "()V"⟩, 11), (⟨"DecisionChain$PureSets", "begin", "()Z"⟩, 11), (⟨"DecisionChain$PureSets", "moveOn", "()Z"⟩, 11), (⟨"DecisionChain$PureSets", "isPermittedSet", "()Z"⟩, 11), (⟨"DecisionChain$PureSets", "holds", "(II)Z"⟩, 11), (⟨"DecisionChain", "brokenWith", "([I)I"⟩, 12), (⟨"DecisionChain", "needWalk", "()V"⟩, 12), (⟨"DecisionChain$Walker", "draw", "()I"⟩, 4), (⟨"DecisionChain$Walker", "drawAction", "([II)I"⟩, 4), (⟨"DecisionChain$Walker", "drawNext", "(II)I"⟩, 4), (⟨"DecisionChain$Keeper", "dropOldest", "()V"⟩, 4)]
theorem lw_r3 : ∀ q ∈ lw_privs_3, lw_okq q := List.forall_mem_cons.mpr ⟨lw_p32, List.forall_mem_cons.mpr ⟨lw_p33, List.forall_mem_cons.mpr ⟨lw_p34, List.forall_mem_cons.mpr ⟨lw_p35, List.forall_mem_cons.mpr ⟨lw_p36, List.forall_mem_cons.mpr ⟨lw_p37, List.forall_mem_cons.mpr ⟨lw_p38, List.forall_mem_cons.mpr ⟨lw_p39, List.forall_mem_cons.mpr ⟨lw_p40, List.forall_mem_cons.mpr ⟨lw_p41, List.forall_mem_cons.mpr ⟨lw_p42, List.forall_mem_cons.mpr ⟨lw_p43, List.forall_mem_cons.mpr ⟨lw_p44, List.forall_mem_cons.mpr ⟨lw_p45, fun _ h => absurd h List.not_mem_nil⟩⟩⟩⟩⟩⟩⟩⟩⟩⟩⟩⟩⟩⟩
def lw_privs : List (MethodName × Nat) := lw_privs_1 ++ (lw_privs_2 ++ (lw_privs_3))
def lw_tbl : List Cond := k2_sels lw_privs ++ tables_1
theorem lw_privs_ok : ∀ q ∈ lw_privs, lw_okq q := by
  show ∀ q ∈ lw_privs_1 ++ (lw_privs_2 ++ (lw_privs_3)), lw_okq q
  exact List.forall_mem_append.mpr ⟨lw_r1, List.forall_mem_append.mpr ⟨lw_r2, lw_r3⟩⟩
/-- the streams that the claim lets the run draw from -/
abbrev lw_cs : List Choice := [Jvm.Choice.named "NaN.bits"]
theorem lw_bits : nanBits ∈ lw_cs := by first | decide | exact List.mem_cons_self | simp [lw_cs, nanBits]

def RX0 : String := "DecisionChain$Chain"
def TX0 : u_T := fun k => match k with
  | 0 => ("DecisionChain$Chain", "states", "I", false)
  | 1 => ("DecisionChain$Chain", "budgets", "I", false)
  | 2 => ("DecisionChain$Chain", "actions", "[I", true)
  | 3 => ("DecisionChain$Chain", "gains", "[I", true)
  | 4 => ("DecisionChain$Chain", "amounts", "[I", true)
  | 5 => ("DecisionChain$Chain", "percents", "[I", true)
  | 6 => ("DecisionChain$Chain", "tells", "[I", true)
  | _ => ("DecisionChain$Chain", "told", "[I", true)
def tyX0 : Nat → FieldType := fun k => match k with
  | 0 => .int
  | 1 => .int
  | 2 => .array .int
  | 3 => .array .int
  | 4 => .array .int
  | 5 => .array .int
  | 6 => .array .int
  | _ => .array .int
theorem nmX0 : ∀ a, a < 8 → ∀ b, b < 8 → a ≠ b → (TX0 a).2.1 ≠ (TX0 b).2.1 := by decide +kernel
theorem tyX0_ok : ∀ k, k < 8 → parseFieldDescriptor (TX0 k).2.2.1 = some (tyX0 k) := by decide +kernel
abbrev cX0_init : ByteArray := prog_2_method_1_code
def yX0_init : MethodName := ⟨RX0, "<init>", "()V"⟩
abbrev cX0_clear : ByteArray := prog_2_method_2_code
def yX0_clear : MethodName := ⟨RX0, "clear", "()V"⟩
abbrev cX0_copyFrom : ByteArray := prog_2_method_3_code
def yX0_copyFrom : MethodName := ⟨RX0, "copyFrom", "(LDecisionChain$Chain;)V"⟩
abbrev cX0_amountOf : ByteArray := prog_2_method_4_code
def yX0_amountOf : MethodName := ⟨RX0, "amountOf", "(II)I"⟩
abbrev cX0_percentTo : ByteArray := prog_2_method_5_code
def yX0_percentTo : MethodName := ⟨RX0, "percentTo", "(II)I"⟩
abbrev cX0_tell : ByteArray := prog_2_method_6_code
def yX0_tell : MethodName := ⟨RX0, "tell", "(III)V"⟩
abbrev cX0_countActions : ByteArray := prog_2_method_7_code
def yX0_countActions : MethodName := ⟨RX0, "countActions", "()I"⟩
def RX1 : String := "DecisionChain$Flows"
def TX1 : u_T := fun k => match k with
  | 0 => ("DecisionChain$Flows", "chain", "LDecisionChain$Chain;", true)
  | 1 => ("DecisionChain$Flows", "start", "I", false)
  | 2 => ("DecisionChain$Flows", "horizon", "I", false)
  | 3 => ("DecisionChain$Flows", "parts", "[J", true)
  | 4 => ("DecisionChain$Flows", "flow", "[J", true)
  | 5 => ("DecisionChain$Flows", "missing", "[J", true)
  | _ => ("DecisionChain$Flows", "chances", "[J", true)
def tyX1 : Nat → FieldType := fun k => match k with
  | 0 => .object "DecisionChain$Chain"
  | 1 => .int
  | 2 => .int
  | 3 => .array .long
  | 4 => .array .long
  | 5 => .array .long
  | _ => .array .long
theorem nmX1 : ∀ a, a < 7 → ∀ b, b < 7 → a ≠ b → (TX1 a).2.1 ≠ (TX1 b).2.1 := by decide +kernel
theorem tyX1_ok : ∀ k, k < 7 → parseFieldDescriptor (TX1 k).2.2.1 = some (tyX1 k) := by decide +kernel
abbrev cX1_init : ByteArray := prog_3_method_1_code
def yX1_init : MethodName := ⟨RX1, "<init>", "(LDecisionChain$Chain;)V"⟩
abbrev cX1_follow : ByteArray := prog_3_method_2_code
def yX1_follow : MethodName := ⟨RX1, "follow", "([III)V"⟩
abbrev cX1_fillParts : ByteArray := prog_3_method_3_code
def yX1_fillParts : MethodName := ⟨RX1, "fillParts", "([I)V"⟩
abbrev cX1_addParts : ByteArray := prog_3_method_4_code
def yX1_addParts : MethodName := ⟨RX1, "addParts", "(III)V"⟩
abbrev cX1_spread : ByteArray := prog_3_method_5_code
def yX1_spread : MethodName := ⟨RX1, "spread", "([JI)V"⟩
abbrev cX1_partsTo : ByteArray := prog_3_method_6_code
def yX1_partsTo : MethodName := ⟨RX1, "partsTo", "(II)J"⟩
abbrev cX1_nextStates : ByteArray := prog_3_method_7_code
def yX1_nextStates : MethodName := ⟨RX1, "nextStates", "(I)I"⟩
abbrev cX1_at : ByteArray := prog_3_method_8_code
def yX1_at : MethodName := ⟨RX1, "at", "(II)J"⟩
abbrev cX1_visitsOf : ByteArray := prog_3_method_9_code
def yX1_visitsOf : MethodName := ⟨RX1, "visitsOf", "(I)J"⟩
abbrev cX1_sumOf : ByteArray := prog_3_method_10_code
def yX1_sumOf : MethodName := ⟨RX1, "sumOf", "(II)J"⟩
abbrev cX1_rankOf : ByteArray := prog_3_method_11_code
def yX1_rankOf : MethodName := ⟨RX1, "rankOf", "(I)I"⟩
abbrev cX1_hitOf : ByteArray := prog_3_method_12_code
def yX1_hitOf : MethodName := ⟨RX1, "hitOf", "(I)J"⟩
abbrev cX1_gainOf : ByteArray := prog_3_method_13_code
def yX1_gainOf : MethodName := ⟨RX1, "gainOf", "([I)J"⟩
abbrev cX1_usedOf : ByteArray := prog_3_method_14_code
def yX1_usedOf : MethodName := ⟨RX1, "usedOf", "([II)J"⟩
abbrev cX1_stateOfLikeliest : ByteArray := prog_3_method_16_code
def yX1_stateOfLikeliest : MethodName := ⟨RX1, "stateOfLikeliest", "(I)I"⟩
abbrev cX1_fillChances : ByteArray := prog_3_method_17_code
def yX1_fillChances : MethodName := ⟨RX1, "fillChances", "()V"⟩
abbrev cX1_chanceOver : ByteArray := prog_3_method_18_code
def yX1_chanceOver : MethodName := ⟨RX1, "chanceOver", "(III)J"⟩
abbrev cX1_likeliestNext : ByteArray := prog_3_method_19_code
def yX1_likeliestNext : MethodName := ⟨RX1, "likeliestNext", "(II)I"⟩
def RX2 : String := "DecisionChain$Input"
def TX2 : u_T := fun k => match k with
  | 0 => ("DecisionChain$Input", "bytes", "[B", true)
  | 1 => ("DecisionChain$Input", "count", "I", false)
  | 2 => ("DecisionChain$Input", "limit", "I", false)
  | 3 => ("DecisionChain$Input", "kind", "I", false)
  | 4 => ("DecisionChain$Input", "at", "I", false)
  | 5 => ("DecisionChain$Input", "end", "I", false)
  | _ => ("DecisionChain$Input", "number", "I", false)
def tyX2 : Nat → FieldType := fun k => match k with
  | 0 => .array .byte
  | 1 => .int
  | 2 => .int
  | 3 => .int
  | 4 => .int
  | 5 => .int
  | _ => .int
theorem nmX2 : ∀ a, a < 7 → ∀ b, b < 7 → a ≠ b → (TX2 a).2.1 ≠ (TX2 b).2.1 := by decide +kernel
theorem tyX2_ok : ∀ k, k < 7 → parseFieldDescriptor (TX2 k).2.2.1 = some (tyX2 k) := by decide +kernel
abbrev cX2_init : ByteArray := prog_4_method_1_code
def yX2_init : MethodName := ⟨RX2, "<init>", "()V"⟩
abbrev cX2_hasRoom : ByteArray := prog_4_method_2_code
def yX2_hasRoom : MethodName := ⟨RX2, "hasRoom", "(I)Z"⟩
abbrev cX2_put : ByteArray := prog_4_method_3_code
def yX2_put : MethodName := ⟨RX2, "put", "(I)V"⟩
abbrev cX2_begin : ByteArray := prog_4_method_4_code
def yX2_begin : MethodName := ⟨RX2, "begin", "(I)V"⟩
abbrev cX2_advance : ByteArray := prog_4_method_5_code
def yX2_advance : MethodName := ⟨RX2, "advance", "()V"⟩
abbrev cX2_isWord : ByteArray := prog_4_method_6_code
def yX2_isWord : MethodName := ⟨RX2, "isWord", "(Ljava/lang/String;)Z"⟩
abbrev cX2_isLetter : ByteArray := prog_4_method_7_code
def yX2_isLetter : MethodName := ⟨RX2, "isLetter", "(I)Z"⟩
abbrev cX2_isDigit : ByteArray := prog_4_method_8_code
def yX2_isDigit : MethodName := ⟨RX2, "isDigit", "(I)Z"⟩
def RX3 : String := "DecisionChain$Keeper"
def TX3 : u_T := fun k => match k with
  | 0 => ("DecisionChain$Keeper", "changes", "I", false)
  | 1 => ("DecisionChain$Keeper", "before", "[LDecisionChain$Settings;", true)
  | 2 => ("DecisionChain$Keeper", "slots", "[LDecisionChain$Settings;", true)
  | _ => ("DecisionChain$Keeper", "full", "I", false)
def tyX3 : Nat → FieldType := fun k => match k with
  | 0 => .int
  | 1 => .array (.object "DecisionChain$Settings")
  | 2 => .array (.object "DecisionChain$Settings")
  | _ => .int
theorem nmX3 : ∀ a, a < 4 → ∀ b, b < 4 → a ≠ b → (TX3 a).2.1 ≠ (TX3 b).2.1 := by decide +kernel
theorem tyX3_ok : ∀ k, k < 4 → parseFieldDescriptor (TX3 k).2.2.1 = some (tyX3 k) := by decide +kernel
abbrev cX3_init : ByteArray := prog_5_method_1_code
def yX3_init : MethodName := ⟨RX3, "<init>", "()V"⟩
abbrev cX3_forget : ByteArray := prog_5_method_2_code
def yX3_forget : MethodName := ⟨RX3, "forget", "()V"⟩
abbrev cX3_keep : ByteArray := prog_5_method_3_code
def yX3_keep : MethodName := ⟨RX3, "keep", "(LDecisionChain$Settings;)V"⟩
abbrev cX3_giveBack : ByteArray := prog_5_method_4_code
def yX3_giveBack : MethodName := ⟨RX3, "giveBack", "(LDecisionChain$Settings;)V"⟩
abbrev cX3_dropOldest : ByteArray := prog_5_method_5_code
def yX3_dropOldest : MethodName := ⟨RX3, "dropOldest", "()V"⟩
abbrev cX3_isFull : ByteArray := prog_5_method_6_code
def yX3_isFull : MethodName := ⟨RX3, "isFull", "(I)Z"⟩
abbrev cX3_put : ByteArray := prog_5_method_7_code
def yX3_put : MethodName := ⟨RX3, "put", "(ILDecisionChain$Settings;)V"⟩
abbrev cX3_take : ByteArray := prog_5_method_8_code
def yX3_take : MethodName := ⟨RX3, "take", "(ILDecisionChain$Settings;)V"⟩
def RX4 : String := "DecisionChain$Parser"
def TX4 : u_T := fun k => match k with
  | 0 => ("DecisionChain$Parser", "chain", "LDecisionChain$Chain;", true)
  | 1 => ("DecisionChain$Parser", "settings", "LDecisionChain$Settings;", true)
  | 2 => ("DecisionChain$Parser", "error", "I", false)
  | 3 => ("DecisionChain$Parser", "errorAt", "I", false)
  | 4 => ("DecisionChain$Parser", "input", "LDecisionChain$Input;", true)
  | 5 => ("DecisionChain$Parser", "taken", "I", false)
  | _ => ("DecisionChain$Parser", "ruled", "I", false)
def tyX4 : Nat → FieldType := fun k => match k with
  | 0 => .object "DecisionChain$Chain"
  | 1 => .object "DecisionChain$Settings"
  | 2 => .int
  | 3 => .int
  | 4 => .object "DecisionChain$Input"
  | 5 => .int
  | _ => .int
theorem nmX4 : ∀ a, a < 7 → ∀ b, b < 7 → a ≠ b → (TX4 a).2.1 ≠ (TX4 b).2.1 := by decide +kernel
theorem tyX4_ok : ∀ k, k < 7 → parseFieldDescriptor (TX4 k).2.2.1 = some (tyX4 k) := by decide +kernel
abbrev cX4_init : ByteArray := prog_6_method_1_code
def yX4_init : MethodName := ⟨RX4, "<init>", "(LDecisionChain$Input;)V"⟩
abbrev cX4_parse : ByteArray := prog_6_method_2_code
def yX4_parse : MethodName := ⟨RX4, "parse", "(I)Z"⟩
abbrev cX4_fail : ByteArray := prog_6_method_3_code
def yX4_fail : MethodName := ⟨RX4, "fail", "(I)Z"⟩
abbrev cX4_takeWord : ByteArray := prog_6_method_4_code
def yX4_takeWord : MethodName := ⟨RX4, "takeWord", "(Ljava/lang/String;)Z"⟩
abbrev cX4_seeNumber : ByteArray := prog_6_method_5_code
def yX4_seeNumber : MethodName := ⟨RX4, "seeNumber", "(II)Z"⟩
abbrev cX4_takeNumber : ByteArray := prog_6_method_6_code
def yX4_takeNumber : MethodName := ⟨RX4, "takeNumber", "(II)Z"⟩
abbrev cX4_seeState : ByteArray := prog_6_method_7_code
def yX4_seeState : MethodName := ⟨RX4, "seeState", "()Z"⟩
abbrev cX4_parseHead : ByteArray := prog_6_method_8_code
def yX4_parseHead : MethodName := ⟨RX4, "parseHead", "()Z"⟩
abbrev cX4_parseLine : ByteArray := prog_6_method_9_code
def yX4_parseLine : MethodName := ⟨RX4, "parseLine", "()Z"⟩
abbrev cX4_parseBudget : ByteArray := prog_6_method_10_code
def yX4_parseBudget : MethodName := ⟨RX4, "parseBudget", "()Z"⟩
abbrev cX4_parseStart : ByteArray := prog_6_method_11_code
def yX4_parseStart : MethodName := ⟨RX4, "parseStart", "()Z"⟩
abbrev cX4_parseAct : ByteArray := prog_6_method_12_code
def yX4_parseAct : MethodName := ⟨RX4, "parseAct", "()Z"⟩
abbrev cX4_parseGain : ByteArray := prog_6_method_13_code
def yX4_parseGain : MethodName := ⟨RX4, "parseGain", "(I)Z"⟩
abbrev cX4_parseUses : ByteArray := prog_6_method_14_code
def yX4_parseUses : MethodName := ⟨RX4, "parseUses", "(I)Z"⟩
abbrev cX4_parsePercents : ByteArray := prog_6_method_15_code
def yX4_parsePercents : MethodName := ⟨RX4, "parsePercents", "(I)Z"⟩
abbrev cX4_parseRule : ByteArray := prog_6_method_16_code
def yX4_parseRule : MethodName := ⟨RX4, "parseRule", "()Z"⟩
abbrev cX4_parseWeights : ByteArray := prog_6_method_17_code
def yX4_parseWeights : MethodName := ⟨RX4, "parseWeights", "(I)Z"⟩
abbrev cX4_endLine : ByteArray := prog_6_method_18_code
def yX4_endLine : MethodName := ⟨RX4, "endLine", "(I)Z"⟩
abbrev cX4_checkStates : ByteArray := prog_6_method_19_code
def yX4_checkStates : MethodName := ⟨RX4, "checkStates", "()Z"⟩
def RX5 : String := "DecisionChain$PureSets"
def TX5 : u_T := fun k => match k with
  | 0 => ("DecisionChain$PureSets", "chain", "LDecisionChain$Chain;", true)
  | 1 => ("DecisionChain$PureSets", "now", "LDecisionChain$Settings;", true)
  | 2 => ("DecisionChain$PureSets", "flows", "LDecisionChain$Flows;", true)
  | 3 => ("DecisionChain$PureSets", "gains", "[J", true)
  | 4 => ("DecisionChain$PureSets", "used", "[J", true)
  | 5 => ("DecisionChain$PureSets", "madeStart", "I", false)
  | 6 => ("DecisionChain$PureSets", "madeHorizon", "I", false)
  | 7 => ("DecisionChain$PureSets", "set", "I", false)
  | 8 => ("DecisionChain$PureSets", "choice", "[I", true)
  | 9 => ("DecisionChain$PureSets", "weights", "[I", true)
  | _ => ("DecisionChain$PureSets", "best", "[I", true)
def tyX5 : Nat → FieldType := fun k => match k with
  | 0 => .object "DecisionChain$Chain"
  | 1 => .object "DecisionChain$Settings"
  | 2 => .object "DecisionChain$Flows"
  | 3 => .array .long
  | 4 => .array .long
  | 5 => .int
  | 6 => .int
  | 7 => .int
  | 8 => .array .int
  | 9 => .array .int
  | _ => .array .int
theorem nmX5 : ∀ a, a < 11 → ∀ b, b < 11 → a ≠ b → (TX5 a).2.1 ≠ (TX5 b).2.1 := by decide +kernel
theorem tyX5_ok : ∀ k, k < 11 → parseFieldDescriptor (TX5 k).2.2.1 = some (tyX5 k) := by decide +kernel
abbrev cX5_init : ByteArray := prog_7_method_1_code
def yX5_init : MethodName := ⟨RX5, "<init>", "(LDecisionChain$Chain;LDecisionChain$Settings;LDecisionChain$Flows;)V"⟩
abbrev cX5_forget : ByteArray := prog_7_method_2_code
def yX5_forget : MethodName := ⟨RX5, "forget", "()V"⟩
abbrev cX5_findBest : ByteArray := prog_7_method_3_code
def yX5_findBest : MethodName := ⟨RX5, "findBest", "(II)J"⟩
abbrev cX5_writeWeights : ByteArray := prog_7_method_6_code
def yX5_writeWeights : MethodName := ⟨RX5, "writeWeights", "([I[I)V"⟩
abbrev cX5_fill : ByteArray := prog_7_method_7_code
def yX5_fill : MethodName := ⟨RX5, "fill", "()V"⟩
abbrev cX5_begin : ByteArray := prog_7_method_8_code
def yX5_begin : MethodName := ⟨RX5, "begin", "()Z"⟩
abbrev cX5_moveOn : ByteArray := prog_7_method_9_code
def yX5_moveOn : MethodName := ⟨RX5, "moveOn", "()Z"⟩
abbrev cX5_isPermittedSet : ByteArray := prog_7_method_10_code
def yX5_isPermittedSet : MethodName := ⟨RX5, "isPermittedSet", "()Z"⟩
abbrev cX5_holds : ByteArray := prog_7_method_11_code
def yX5_holds : MethodName := ⟨RX5, "holds", "(II)Z"⟩
def RX6 : String := "DecisionChain$Report"
def TX6 : u_T := fun k => match k with
  | 0 => ("DecisionChain$Report", "bytes", "[B", true)
  | _ => ("DecisionChain$Report", "length", "I", false)
def tyX6 : Nat → FieldType := fun k => match k with
  | 0 => .array .byte
  | _ => .int
theorem nmX6 : ∀ a, a < 2 → ∀ b, b < 2 → a ≠ b → (TX6 a).2.1 ≠ (TX6 b).2.1 := by decide +kernel
theorem tyX6_ok : ∀ k, k < 2 → parseFieldDescriptor (TX6 k).2.2.1 = some (tyX6 k) := by decide +kernel
abbrev cX6_init : ByteArray := prog_8_method_1_code
def yX6_init : MethodName := ⟨RX6, "<init>", "()V"⟩
def RX7 : String := "DecisionChain$Settings"
def TX7 : u_T := fun k => match k with
  | 0 => ("DecisionChain$Settings", "weights", "[I", true)
  | 1 => ("DecisionChain$Settings", "permitted", "[I", true)
  | 2 => ("DecisionChain$Settings", "limits", "[I", true)
  | 3 => ("DecisionChain$Settings", "start", "I", false)
  | 4 => ("DecisionChain$Settings", "horizon", "I", false)
  | 5 => ("DecisionChain$Settings", "seed", "I", false)
  | 6 => ("DecisionChain$Settings", "walkSteps", "I", false)
  | 7 => ("DecisionChain$Settings", "walkStates", "[I", true)
  | _ => ("DecisionChain$Settings", "walkActions", "[I", true)
def tyX7 : Nat → FieldType := fun k => match k with
  | 0 => .array .int
  | 1 => .array .int
  | 2 => .array .int
  | 3 => .int
  | 4 => .int
  | 5 => .int
  | 6 => .int
  | 7 => .array .int
  | _ => .array .int
theorem nmX7 : ∀ a, a < 9 → ∀ b, b < 9 → a ≠ b → (TX7 a).2.1 ≠ (TX7 b).2.1 := by decide +kernel
theorem tyX7_ok : ∀ k, k < 9 → parseFieldDescriptor (TX7 k).2.2.1 = some (tyX7 k) := by decide +kernel
abbrev cX7_init : ByteArray := prog_9_method_1_code
def yX7_init : MethodName := ⟨RX7, "<init>", "()V"⟩
abbrev cX7_clear : ByteArray := prog_9_method_2_code
def yX7_clear : MethodName := ⟨RX7, "clear", "()V"⟩
abbrev cX7_copyFrom : ByteArray := prog_9_method_3_code
def yX7_copyFrom : MethodName := ⟨RX7, "copyFrom", "(LDecisionChain$Settings;)V"⟩
abbrev cX7_permits : ByteArray := prog_9_method_4_code
def yX7_permits : MethodName := ⟨RX7, "permits", "(II)Z"⟩
abbrev cX7_walkRow : ByteArray := prog_9_method_5_code
def yX7_walkRow : MethodName := ⟨RX7, "walkRow", "(I)I"⟩
def RX8 : String := "DecisionChain$Spending"
def TX8 : u_T := fun k => match k with
  | 0 => ("DecisionChain$Spending", "chain", "LDecisionChain$Chain;", true)
  | 1 => ("DecisionChain$Spending", "here", "[J", false)
  | 2 => ("DecisionChain$Spending", "later", "[J", false)
  | _ => ("DecisionChain$Spending", "greatest", "[I", true)
def tyX8 : Nat → FieldType := fun k => match k with
  | 0 => .object "DecisionChain$Chain"
  | 1 => .array .long
  | 2 => .array .long
  | _ => .array .int
theorem nmX8 : ∀ a, a < 4 → ∀ b, b < 4 → a ≠ b → (TX8 a).2.1 ≠ (TX8 b).2.1 := by decide +kernel
theorem tyX8_ok : ∀ k, k < 4 → parseFieldDescriptor (TX8 k).2.2.1 = some (tyX8 k) := by decide +kernel
abbrev cX8_init : ByteArray := prog_10_method_1_code
def yX8_init : MethodName := ⟨RX8, "<init>", "(LDecisionChain$Chain;)V"⟩
def RX9 : String := "DecisionChain$Values"
def TX9 : u_T := fun k => match k with
  | 0 => ("DecisionChain$Values", "chain", "LDecisionChain$Chain;", true)
  | 1 => ("DecisionChain$Values", "now", "LDecisionChain$Settings;", true)
  | _ => ("DecisionChain$Values", "values", "[J", true)
def tyX9 : Nat → FieldType := fun k => match k with
  | 0 => .object "DecisionChain$Chain"
  | 1 => .object "DecisionChain$Settings"
  | _ => .array .long
theorem nmX9 : ∀ a, a < 3 → ∀ b, b < 3 → a ≠ b → (TX9 a).2.1 ≠ (TX9 b).2.1 := by decide +kernel
theorem tyX9_ok : ∀ k, k < 3 → parseFieldDescriptor (TX9 k).2.2.1 = some (tyX9 k) := by decide +kernel
abbrev cX9_init : ByteArray := prog_11_method_1_code
def yX9_init : MethodName := ⟨RX9, "<init>", "(LDecisionChain$Chain;LDecisionChain$Settings;)V"⟩
abbrev cX9_fill : ByteArray := prog_11_method_2_code
def yX9_fill : MethodName := ⟨RX9, "fill", "()V"⟩
abbrev cX9_of : ByteArray := prog_11_method_3_code
def yX9_of : MethodName := ⟨RX9, "of", "(II)J"⟩
abbrev cX9_firstAction : ByteArray := prog_11_method_4_code
def yX9_firstAction : MethodName := ⟨RX9, "firstAction", "(II)I"⟩
abbrev cX9_valueOver : ByteArray := prog_11_method_5_code
def yX9_valueOver : MethodName := ⟨RX9, "valueOver", "(II)J"⟩
def RX10 : String := "DecisionChain$Walker"
def TX10 : u_T := fun k => match k with
  | 0 => ("DecisionChain$Walker", "chain", "LDecisionChain$Chain;", true)
  | 1 => ("DecisionChain$Walker", "seed", "I", false)
  | 2 => ("DecisionChain$Walker", "state", "I", false)
  | _ => ("DecisionChain$Walker", "action", "I", false)
def tyX10 : Nat → FieldType := fun k => match k with
  | 0 => .object "DecisionChain$Chain"
  | 1 => .int
  | 2 => .int
  | _ => .int
theorem nmX10 : ∀ a, a < 4 → ∀ b, b < 4 → a ≠ b → (TX10 a).2.1 ≠ (TX10 b).2.1 := by decide +kernel
theorem tyX10_ok : ∀ k, k < 4 → parseFieldDescriptor (TX10 k).2.2.1 = some (tyX10 k) := by decide +kernel
abbrev cX10_init : ByteArray := prog_12_method_1_code
def yX10_init : MethodName := ⟨RX10, "<init>", "(LDecisionChain$Chain;)V"⟩
abbrev cX10_step : ByteArray := prog_12_method_2_code
def yX10_step : MethodName := ⟨RX10, "step", "([I)V"⟩
abbrev cX10_gainOfNext : ByteArray := prog_12_method_3_code
def yX10_gainOfNext : MethodName := ⟨RX10, "gainOfNext", "(LDecisionChain$Settings;)I"⟩
abbrev cX10_draw : ByteArray := prog_12_method_4_code
def yX10_draw : MethodName := ⟨RX10, "draw", "()I"⟩
abbrev cX10_drawAction : ByteArray := prog_12_method_5_code
def yX10_drawAction : MethodName := ⟨RX10, "drawAction", "([II)I"⟩
abbrev cX10_drawNext : ByteArray := prog_12_method_6_code
def yX10_drawNext : MethodName := ⟨RX10, "drawNext", "(II)I"⟩
def RX11 : String := "DecisionChain"
def TX11 : u_T := fun k => match k with
  | 0 => ("DecisionChain", "input", "LDecisionChain$Input;", true)
  | 1 => ("DecisionChain", "parser", "LDecisionChain$Parser;", true)
  | 2 => ("DecisionChain", "chain", "LDecisionChain$Chain;", true)
  | 3 => ("DecisionChain", "now", "LDecisionChain$Settings;", true)
  | 4 => ("DecisionChain", "keeper", "LDecisionChain$Keeper;", true)
  | 5 => ("DecisionChain", "flows", "LDecisionChain$Flows;", true)
  | 6 => ("DecisionChain", "spending", "LDecisionChain$Spending;", true)
  | 7 => ("DecisionChain", "pure", "LDecisionChain$PureSets;", true)
  | 8 => ("DecisionChain", "values", "LDecisionChain$Values;", true)
  | 9 => ("DecisionChain", "walker", "LDecisionChain$Walker;", true)
  | 10 => ("DecisionChain", "text", "LDecisionChain$Report;", true)
  | _ => ("DecisionChain", "trial", "[I", true)
def tyX11 : Nat → FieldType := fun k => match k with
  | 0 => .object "DecisionChain$Input"
  | 1 => .object "DecisionChain$Parser"
  | 2 => .object "DecisionChain$Chain"
  | 3 => .object "DecisionChain$Settings"
  | 4 => .object "DecisionChain$Keeper"
  | 5 => .object "DecisionChain$Flows"
  | 6 => .object "DecisionChain$Spending"
  | 7 => .object "DecisionChain$PureSets"
  | 8 => .object "DecisionChain$Values"
  | 9 => .object "DecisionChain$Walker"
  | 10 => .object "DecisionChain$Report"
  | _ => .array .int
theorem nmX11 : ∀ a, a < 12 → ∀ b, b < 12 → a ≠ b → (TX11 a).2.1 ≠ (TX11 b).2.1 := by decide +kernel
theorem tyX11_ok : ∀ k, k < 12 → parseFieldDescriptor (TX11 k).2.2.1 = some (tyX11 k) := by decide +kernel
abbrev cX11_init : ByteArray := prog_1_method_1_code
def yX11_init : MethodName := ⟨RX11, "<init>", "()V"⟩
abbrev cX11_append : ByteArray := prog_1_method_2_code
def yX11_append : MethodName := ⟨RX11, "append", "(IIIII)I"⟩
abbrev cX11_load : ByteArray := prog_1_method_3_code
def yX11_load : MethodName := ⟨RX11, "load", "(I)I"⟩
abbrev cX11_parseError : ByteArray := prog_1_method_4_code
def yX11_parseError : MethodName := ⟨RX11, "parseError", "()I"⟩
abbrev cX11_errorPosition : ByteArray := prog_1_method_5_code
def yX11_errorPosition : MethodName := ⟨RX11, "errorPosition", "()I"⟩
abbrev cX11_states : ByteArray := prog_1_method_7_code
def yX11_states : MethodName := ⟨RX11, "states", "()I"⟩
abbrev cX11_budgets : ByteArray := prog_1_method_8_code
def yX11_budgets : MethodName := ⟨RX11, "budgets", "()I"⟩
abbrev cX11_horizon : ByteArray := prog_1_method_9_code
def yX11_horizon : MethodName := ⟨RX11, "horizon", "()I"⟩
abbrev cX11_start : ByteArray := prog_1_method_10_code
def yX11_start : MethodName := ⟨RX11, "start", "()I"⟩
abbrev cX11_actions : ByteArray := prog_1_method_11_code
def yX11_actions : MethodName := ⟨RX11, "actions", "(I)I"⟩
abbrev cX11_gain : ByteArray := prog_1_method_12_code
def yX11_gain : MethodName := ⟨RX11, "gain", "(II)I"⟩
abbrev cX11_uses : ByteArray := prog_1_method_13_code
def yX11_uses : MethodName := ⟨RX11, "uses", "(III)I"⟩
abbrev cX11_percent : ByteArray := prog_1_method_14_code
def yX11_percent : MethodName := ⟨RX11, "percent", "(III)I"⟩
abbrev cX11_weight : ByteArray := prog_1_method_15_code
def yX11_weight : MethodName := ⟨RX11, "weight", "(II)I"⟩
abbrev cX11_isPermitted : ByteArray := prog_1_method_16_code
def yX11_isPermitted : MethodName := ⟨RX11, "isPermitted", "(II)Z"⟩
abbrev cX11_limit : ByteArray := prog_1_method_17_code
def yX11_limit : MethodName := ⟨RX11, "limit", "(I)I"⟩
abbrev cX11_reach : ByteArray := prog_1_method_18_code
def yX11_reach : MethodName := ⟨RX11, "reach", "(I)I"⟩
abbrev cX11_isClosed : ByteArray := prog_1_method_19_code
def yX11_isClosed : MethodName := ⟨RX11, "isClosed", "(I)Z"⟩
abbrev cX11_flow : ByteArray := prog_1_method_20_code
def yX11_flow : MethodName := ⟨RX11, "flow", "(II)J"⟩
abbrev cX11_use : ByteArray := prog_1_method_21_code
def yX11_use : MethodName := ⟨RX11, "use", "(III)J"⟩
abbrev cX11_visits : ByteArray := prog_1_method_22_code
def yX11_visits : MethodName := ⟨RX11, "visits", "(I)J"⟩
abbrev cX11_hit : ByteArray := prog_1_method_23_code
def yX11_hit : MethodName := ⟨RX11, "hit", "(I)J"⟩
abbrev cX11_unit : ByteArray := prog_1_method_24_code
def yX11_unit : MethodName := ⟨RX11, "unit", "()J"⟩
abbrev cX11_gainOfRun : ByteArray := prog_1_method_25_code
def yX11_gainOfRun : MethodName := ⟨RX11, "gainOfRun", "()J"⟩
abbrev cX11_usedOfRun : ByteArray := prog_1_method_26_code
def yX11_usedOfRun : MethodName := ⟨RX11, "usedOfRun", "(I)J"⟩
abbrev cX11_left : ByteArray := prog_1_method_27_code
def yX11_left : MethodName := ⟨RX11, "left", "(I)J"⟩
abbrev cX11_broken : ByteArray := prog_1_method_28_code
def yX11_broken : MethodName := ⟨RX11, "broken", "()I"⟩
abbrev cX11_firstTime : ByteArray := prog_1_method_31_code
def yX11_firstTime : MethodName := ⟨RX11, "firstTime", "(I)I"⟩
abbrev cX11_busiest : ByteArray := prog_1_method_32_code
def yX11_busiest : MethodName := ⟨RX11, "busiest", "(I)I"⟩
abbrev cX11_meanGain : ByteArray := prog_1_method_33_code
def yX11_meanGain : MethodName := ⟨RX11, "meanGain", "()F"⟩
abbrev cX11_likeliestAt : ByteArray := prog_1_method_35_code
def yX11_likeliestAt : MethodName := ⟨RX11, "likeliestAt", "(I)I"⟩
abbrev cX11_value : ByteArray := prog_1_method_36_code
def yX11_value : MethodName := ⟨RX11, "value", "(II)J"⟩
abbrev cX11_valueAction : ByteArray := prog_1_method_37_code
def yX11_valueAction : MethodName := ⟨RX11, "valueAction", "(II)I"⟩
abbrev cX11_worth : ByteArray := prog_1_method_41_code
def yX11_worth : MethodName := ⟨RX11, "worth", "(II)J"⟩
abbrev cX11_bestWeight : ByteArray := prog_1_method_43_code
def yX11_bestWeight : MethodName := ⟨RX11, "bestWeight", "(III)I"⟩
abbrev cX11_seed : ByteArray := prog_1_method_44_code
def yX11_seed : MethodName := ⟨RX11, "seed", "()I"⟩
abbrev cX11_walked : ByteArray := prog_1_method_45_code
def yX11_walked : MethodName := ⟨RX11, "walked", "(I)I"⟩
abbrev cX11_walkedBy : ByteArray := prog_1_method_46_code
def yX11_walkedBy : MethodName := ⟨RX11, "walkedBy", "(I)I"⟩
abbrev cX11_walkGain : ByteArray := prog_1_method_47_code
def yX11_walkGain : MethodName := ⟨RX11, "walkGain", "()I"⟩
abbrev cX11_gainOfWalks : ByteArray := prog_1_method_49_code
def yX11_gainOfWalks : MethodName := ⟨RX11, "gainOfWalks", "(I)I"⟩
abbrev cX11_reportByte : ByteArray := prog_1_method_51_code
def yX11_reportByte : MethodName := ⟨RX11, "reportByte", "(I)I"⟩
abbrev cX11_setRule : ByteArray := prog_1_method_52_code
def yX11_setRule : MethodName := ⟨RX11, "setRule", "(IIII)I"⟩
abbrev cX11_takeBest : ByteArray := prog_1_method_53_code
def yX11_takeBest : MethodName := ⟨RX11, "takeBest", "()I"⟩
abbrev cX11_permit : ByteArray := prog_1_method_54_code
def yX11_permit : MethodName := ⟨RX11, "permit", "(IIZ)Z"⟩
abbrev cX11_setLimit : ByteArray := prog_1_method_55_code
def yX11_setLimit : MethodName := ⟨RX11, "setLimit", "(II)I"⟩
abbrev cX11_setStart : ByteArray := prog_1_method_56_code
def yX11_setStart : MethodName := ⟨RX11, "setStart", "(I)I"⟩
abbrev cX11_setHorizon : ByteArray := prog_1_method_57_code
def yX11_setHorizon : MethodName := ⟨RX11, "setHorizon", "(I)I"⟩
abbrev cX11_walk : ByteArray := prog_1_method_58_code
def yX11_walk : MethodName := ⟨RX11, "walk", "()I"⟩
abbrev cX11_undo : ByteArray := prog_1_method_59_code
def yX11_undo : MethodName := ⟨RX11, "undo", "()I"⟩
abbrev cX11_undoable : ByteArray := prog_1_method_60_code
def yX11_undoable : MethodName := ⟨RX11, "undoable", "()I"⟩
abbrev cX11_save : ByteArray := prog_1_method_61_code
def yX11_save : MethodName := ⟨RX11, "save", "(I)I"⟩
abbrev cX11_restore : ByteArray := prog_1_method_62_code
def yX11_restore : MethodName := ⟨RX11, "restore", "(I)I"⟩
abbrev cX11_needChain : ByteArray := prog_1_method_63_code
def yX11_needChain : MethodName := ⟨RX11, "needChain", "()V"⟩
abbrev cX11_needState : ByteArray := prog_1_method_64_code
def yX11_needState : MethodName := ⟨RX11, "needState", "(I)V"⟩
abbrev cX11_needAction : ByteArray := prog_1_method_65_code
def yX11_needAction : MethodName := ⟨RX11, "needAction", "(II)V"⟩
abbrev cX11_needBudget : ByteArray := prog_1_method_66_code
def yX11_needBudget : MethodName := ⟨RX11, "needBudget", "(I)V"⟩
abbrev cX11_needTime : ByteArray := prog_1_method_67_code
def yX11_needTime : MethodName := ⟨RX11, "needTime", "(I)V"⟩
abbrev cX11_needWalk : ByteArray := prog_1_method_68_code
def yX11_needWalk : MethodName := ⟨RX11, "needWalk", "()V"⟩
abbrev cX11_needSlot : ByteArray := prog_1_method_69_code
def yX11_needSlot : MethodName := ⟨RX11, "needSlot", "(I)V"⟩
abbrev cX11_needRange : ByteArray := prog_1_method_70_code
def yX11_needRange : MethodName := ⟨RX11, "needRange", "(III)V"⟩
abbrev cX11_rowOf : ByteArray := prog_1_method_71_code
def yX11_rowOf : MethodName := ⟨RX11, "rowOf", "(II)I"⟩
abbrev cX11_copyRow : ByteArray := prog_1_method_72_code
def yX11_copyRow : MethodName := ⟨RX11, "copyRow", "([I[I)V"⟩
abbrev cX11_setWeights : ByteArray := prog_1_method_73_code
def yX11_setWeights : MethodName := ⟨RX11, "setWeights", "([IIIII)V"⟩
abbrev cX11_unitOf : ByteArray := prog_1_method_74_code
def yX11_unitOf : MethodName := ⟨RX11, "unitOf", "(I)J"⟩
abbrev cX11_followRules : ByteArray := prog_1_method_75_code
def yX11_followRules : MethodName := ⟨RX11, "followRules", "()V"⟩
abbrev cX11_brokenWith : ByteArray := prog_1_method_76_code
def yX11_brokenWith : MethodName := ⟨RX11, "brokenWith", "([I)I"⟩
def RX12 : String := "DecisionChainLaw$Chain"
def TX12 : u_T := fun k => match k with
  | 0 => ("DecisionChainLaw$Chain", "text", "Ljava/lang/StringBuilder;", true)
  | 1 => ("DecisionChainLaw$Chain", "states", "I", true)
  | 2 => ("DecisionChainLaw$Chain", "budgets", "I", true)
  | 3 => ("DecisionChainLaw$Chain", "horizon", "I", false)
  | 4 => ("DecisionChainLaw$Chain", "seed", "I", false)
  | 5 => ("DecisionChainLaw$Chain", "start", "I", false)
  | 6 => ("DecisionChainLaw$Chain", "limit", "[I", true)
  | 7 => ("DecisionChainLaw$Chain", "many", "[I", true)
  | 8 => ("DecisionChainLaw$Chain", "gain", "[[I", true)
  | 9 => ("DecisionChainLaw$Chain", "weight", "[[I", true)
  | 10 => ("DecisionChainLaw$Chain", "uses", "[[[I", true)
  | 11 => ("DecisionChainLaw$Chain", "percent", "[[[I", true)
  | 12 => ("DecisionChainLaw$Chain", "order", "[[[I", true)
  | 13 => ("DecisionChainLaw$Chain", "isPermitted", "[[Z", true)
  | 14 => ("DecisionChainLaw$Chain", "steps", "I", false)
  | 15 => ("DecisionChainLaw$Chain", "walk", "[I", true)
  | _ => ("DecisionChainLaw$Chain", "by", "[I", true)
def tyX12 : Nat → FieldType := fun k => match k with
  | 0 => .object "java/lang/StringBuilder"
  | 1 => .int
  | 2 => .int
  | 3 => .int
  | 4 => .int
  | 5 => .int
  | 6 => .array .int
  | 7 => .array .int
  | 8 => .array (.array .int)
  | 9 => .array (.array .int)
  | 10 => .array (.array (.array .int))
  | 11 => .array (.array (.array .int))
  | 12 => .array (.array (.array .int))
  | 13 => .array (.array .boolean)
  | 14 => .int
  | 15 => .array .int
  | _ => .array .int
theorem nmX12 : ∀ a, a < 17 → ∀ b, b < 17 → a ≠ b → (TX12 a).2.1 ≠ (TX12 b).2.1 := by decide +kernel
theorem tyX12_ok : ∀ k, k < 17 → parseFieldDescriptor (TX12 k).2.2.1 = some (tyX12 k) := by decide +kernel
abbrev cX12_init : ByteArray := prog_14_method_1_code
def yX12_init : MethodName := ⟨RX12, "<init>", "(LDecisionChainLaw$Draws;)V"⟩
abbrev cX12_act : ByteArray := prog_14_method_2_code
def yX12_act : MethodName := ⟨RX12, "act", "(LDecisionChainLaw$Draws;II)V"⟩
abbrev cX12_rule : ByteArray := prog_14_method_3_code
def yX12_rule : MethodName := ⟨RX12, "rule", "(LDecisionChainLaw$Draws;I)V"⟩
abbrev cX12_step : ByteArray := prog_14_method_4_code
def yX12_step : MethodName := ⟨RX12, "step", "(II)I"⟩
abbrev cX12_flow : ByteArray := prog_14_method_5_code
def yX12_flow : MethodName := ⟨RX12, "flow", "(II)J"⟩
abbrev cX12_mean : ByteArray := prog_14_method_6_code
def yX12_mean : MethodName := ⟨RX12, "mean", "(III)J"⟩
abbrev cX12_unit : ByteArray := prog_14_method_7_code
def yX12_unit : MethodName := ⟨RX12, "unit", "()J"⟩
abbrev cX12_draw : ByteArray := prog_14_method_9_code
def yX12_draw : MethodName := ⟨RX12, "draw", "(I)I"⟩
abbrev cX12_go : ByteArray := prog_14_method_10_code
def yX12_go : MethodName := ⟨RX12, "go", "()I"⟩
def RX13 : String := "DecisionChainLaw$Draws"
def TX13 : u_T := fun k => match k with
  | 0 => ("DecisionChainLaw$Draws", "cells", "[I", true)
  | _ => ("DecisionChainLaw$Draws", "at", "I", false)
def tyX13 : Nat → FieldType := fun k => match k with
  | 0 => .array .int
  | _ => .int
theorem nmX13 : ∀ a, a < 2 → ∀ b, b < 2 → a ≠ b → (TX13 a).2.1 ≠ (TX13 b).2.1 := by decide +kernel
theorem tyX13_ok : ∀ k, k < 2 → parseFieldDescriptor (TX13 k).2.2.1 = some (tyX13 k) := by decide +kernel
abbrev cX13_init : ByteArray := prog_15_method_1_code
def yX13_init : MethodName := ⟨RX13, "<init>", "([I)V"⟩
abbrev cX13_next : ByteArray := prog_15_method_2_code
def yX13_next : MethodName := ⟨RX13, "next", "(II)I"⟩
def RX14 : String := "DecisionChainModel"
def TX14 : u_T := fun k => match k with
  | _ => ("", "", "", false)
def tyX14 : Nat → FieldType := fun k => match k with
  | _ => .int
theorem nmX14 : ∀ a, a < 0 → ∀ b, b < 0 → a ≠ b → (TX14 a).2.1 ≠ (TX14 b).2.1 := by decide +kernel
theorem tyX14_ok : ∀ k, k < 0 → parseFieldDescriptor (TX14 k).2.2.1 = some (tyX14 k) := by decide +kernel
def RJ5 : String := "java/lang/AbstractStringBuilder"
def TJ5 : u_T := fun k => match k with
  | _ => ("", "", "", false)
def tyJ5 : Nat → FieldType := fun k => match k with
  | _ => .int
theorem nmJ5 : ∀ a, a < 0 → ∀ b, b < 0 → a ≠ b → (TJ5 a).2.1 ≠ (TJ5 b).2.1 := by decide +kernel
theorem tyJ5_ok : ∀ k, k < 0 → parseFieldDescriptor (TJ5 k).2.2.1 = some (tyJ5 k) := by decide +kernel
abbrev cJ5_init_d00df : ByteArray := prog_17_method_2_code
def yJ5_init_d00df : MethodName := ⟨RJ5, "<init>", "(I)V"⟩
abbrev cJ5_init_a7421 : ByteArray := prog_17_method_3_code
def yJ5_init_a7421 : MethodName := ⟨RJ5, "<init>", "(Ljava/lang/String;)V"⟩
abbrev cJ5_length_8abf5 : ByteArray := prog_17_method_6_code
def yJ5_length_8abf5 : MethodName := ⟨RJ5, "length", "()I"⟩
abbrev cJ5_ensureCapacityInternal_d00df : ByteArray := prog_17_method_9_code
def yJ5_ensureCapacityInternal_d00df : MethodName := ⟨RJ5, "ensureCapacityInternal", "(I)V"⟩
abbrev cJ5_newCapacity_0f7a4 : ByteArray := prog_17_method_10_code
def yJ5_newCapacity_0f7a4 : MethodName := ⟨RJ5, "newCapacity", "(I)I"⟩
abbrev cJ5_inflate_da8c8 : ByteArray := prog_17_method_11_code
def yJ5_inflate_da8c8 : MethodName := ⟨RJ5, "inflate", "()V"⟩
abbrev cJ5_append_cf1ce : ByteArray := prog_17_method_22_code
def yJ5_append_cf1ce : MethodName := ⟨RJ5, "append", "(Ljava/lang/String;)Ljava/lang/AbstractStringBuilder;"⟩
abbrev cJ5_appendNull_278bc : ByteArray := prog_17_method_26_code
def yJ5_appendNull_278bc : MethodName := ⟨RJ5, "appendNull", "()Ljava/lang/AbstractStringBuilder;"⟩
abbrev cJ5_append_3fe6f : ByteArray := prog_17_method_31_code
def yJ5_append_3fe6f : MethodName := ⟨RJ5, "append", "(C)Ljava/lang/AbstractStringBuilder;"⟩
abbrev cJ5_append_c97b9 : ByteArray := prog_17_method_32_code
def yJ5_append_c97b9 : MethodName := ⟨RJ5, "append", "(I)Ljava/lang/AbstractStringBuilder;"⟩
abbrev cJ5_getValue_6d5f1 : ByteArray := prog_17_method_64_code
def yJ5_getValue_6d5f1 : MethodName := ⟨RJ5, "getValue", "()[B"⟩
abbrev cJ5_isLatin1_aae02 : ByteArray := prog_17_method_68_code
def yJ5_isLatin1_aae02 : MethodName := ⟨RJ5, "isLatin1", "()Z"⟩
abbrev cJ5_inflateIfNeededFor_a7421 : ByteArray := prog_17_method_71_code
def yJ5_inflateIfNeededFor_a7421 : MethodName := ⟨RJ5, "inflateIfNeededFor", "(Ljava/lang/String;)V"⟩
abbrev cJ5_putStringAt_47b60 : ByteArray := prog_17_method_73_code
def yJ5_putStringAt_47b60 : MethodName := ⟨RJ5, "putStringAt", "(ILjava/lang/String;)V"⟩
def RJ6 : String := "java/lang/Integer"
def TJ6 : u_T := fun k => match k with
  | _ => ("", "", "", false)
def tyJ6 : Nat → FieldType := fun k => match k with
  | _ => .int
theorem nmJ6 : ∀ a, a < 0 → ∀ b, b < 0 → a ≠ b → (TJ6 a).2.1 ≠ (TJ6 b).2.1 := by decide +kernel
theorem tyJ6_ok : ∀ k, k < 0 → parseFieldDescriptor (TJ6 k).2.2.1 = some (tyJ6 k) := by decide +kernel
abbrev cJ6_getChars_ba4f3 : ByteArray := prog_23_method_12_code
def yJ6_getChars_ba4f3 : MethodName := ⟨RJ6, "getChars", "(II[B)I"⟩
abbrev cJ6_stringSize_0f7a4 : ByteArray := prog_23_method_13_code
def yJ6_stringSize_0f7a4 : MethodName := ⟨RJ6, "stringSize", "(I)I"⟩
def RJ9 : String := "java/lang/Math"
def TJ9 : u_T := fun k => match k with
  | _ => ("", "", "", false)
def tyJ9 : Nat → FieldType := fun k => match k with
  | _ => .int
theorem nmJ9 : ∀ a, a < 0 → ∀ b, b < 0 → a ≠ b → (TJ9 a).2.1 ≠ (TJ9 b).2.1 := by decide +kernel
theorem tyJ9_ok : ∀ k, k < 0 → parseFieldDescriptor (TJ9 k).2.2.1 = some (tyJ9 k) := by decide +kernel
abbrev cJ9_abs_0f7a4 : ByteArray := prog_24_method_59_code
def yJ9_abs_0f7a4 : MethodName := ⟨RJ9, "abs", "(I)I"⟩
abbrev cJ9_max_7cf53 : ByteArray := prog_24_method_65_code
def yJ9_max_7cf53 : MethodName := ⟨RJ9, "max", "(II)I"⟩
abbrev cJ9_max_f86c9 : ByteArray := prog_24_method_66_code
def yJ9_max_f86c9 : MethodName := ⟨RJ9, "max", "(JJ)J"⟩
abbrev cJ9_min_7cf53 : ByteArray := prog_24_method_69_code
def yJ9_min_7cf53 : MethodName := ⟨RJ9, "min", "(II)I"⟩
def RJ0 : String := "java/lang/String"
def TJ0 : u_T := fun k => match k with
  | 0 => ("java/lang/String", "value", "[B", true)
  | 1 => ("java/lang/String", "coder", "B", true)
  | 2 => ("java/lang/String", "hash", "I", false)
  | _ => ("java/lang/String", "hashIsZero", "Z", false)
def tyJ0 : Nat → FieldType := fun k => match k with
  | 0 => .array .byte
  | 1 => .byte
  | 2 => .int
  | _ => .boolean
theorem nmJ0 : ∀ a, a < 4 → ∀ b, b < 4 → a ≠ b → (TJ0 a).2.1 ≠ (TJ0 b).2.1 := by decide +kernel
theorem tyJ0_ok : ∀ k, k < 4 → parseFieldDescriptor (TJ0 k).2.2.1 = some (tyJ0 k) := by decide +kernel
abbrev cJ0_init_81219 : ByteArray := prog_27_method_53_code
def yJ0_init_81219 : MethodName := ⟨RJ0, "<init>", "(Ljava/lang/StringBuilder;)V"⟩
abbrev cJ0_length_8abf5 : ByteArray := prog_27_method_54_code
def yJ0_length_8abf5 : MethodName := ⟨RJ0, "length", "()I"⟩
abbrev cJ0_charAt_5068e : ByteArray := prog_27_method_56_code
def yJ0_charAt_5068e : MethodName := ⟨RJ0, "charAt", "(I)C"⟩
abbrev cJ0_getBytes_840e7 : ByteArray := prog_27_method_147_code
def yJ0_getBytes_840e7 : MethodName := ⟨RJ0, "getBytes", "([BIB)V"⟩
abbrev cJ0_init_db425 : ByteArray := prog_27_method_150_code
def yJ0_init_db425 : MethodName := ⟨RJ0, "<init>", "(Ljava/lang/AbstractStringBuilder;Ljava/lang/Void;)V"⟩
abbrev cJ0_coder_7d493 : ByteArray := prog_27_method_152_code
def yJ0_coder_7d493 : MethodName := ⟨RJ0, "coder", "()B"⟩
abbrev cJ0_isLatin1_aae02 : ByteArray := prog_27_method_154_code
def yJ0_isLatin1_aae02 : MethodName := ⟨RJ0, "isLatin1", "()Z"⟩
abbrev cJ0_checkIndex_df160 : ByteArray := prog_27_method_155_code
def yJ0_checkIndex_df160 : MethodName := ⟨RJ0, "checkIndex", "(II)V"⟩
abbrev cJ0_checkBoundsOffCount_cabcc : ByteArray := prog_27_method_157_code
def yJ0_checkBoundsOffCount_cabcc : MethodName := ⟨RJ0, "checkBoundsOffCount", "(III)I"⟩
abbrev cJ0_checkBoundsBeginEnd_23922 : ByteArray := prog_27_method_158_code
def yJ0_checkBoundsBeginEnd_23922 : MethodName := ⟨RJ0, "checkBoundsBeginEnd", "(III)V"⟩
def RJ4 : String := "java/lang/StringBuilder"
def TJ4 : u_T := fun k => match k with
  | 0 => ("java/lang/AbstractStringBuilder", "value", "[B", false)
  | 1 => ("java/lang/AbstractStringBuilder", "coder", "B", false)
  | 2 => ("java/lang/AbstractStringBuilder", "maybeLatin1", "Z", false)
  | _ => ("java/lang/AbstractStringBuilder", "count", "I", false)
def tyJ4 : Nat → FieldType := fun k => match k with
  | 0 => .array .byte
  | 1 => .byte
  | 2 => .boolean
  | _ => .int
theorem nmJ4 : ∀ a, a < 4 → ∀ b, b < 4 → a ≠ b → (TJ4 a).2.1 ≠ (TJ4 b).2.1 := by decide +kernel
theorem tyJ4_ok : ∀ k, k < 4 → parseFieldDescriptor (TJ4 k).2.2.1 = some (tyJ4 k) := by decide +kernel
abbrev cJ4_init_da8c8 : ByteArray := prog_28_method_1_code
def yJ4_init_da8c8 : MethodName := ⟨RJ4, "<init>", "()V"⟩
abbrev cJ4_init_a7421 : ByteArray := prog_28_method_3_code
def yJ4_init_a7421 : MethodName := ⟨RJ4, "<init>", "(Ljava/lang/String;)V"⟩
abbrev cJ4_append_15ec4 : ByteArray := prog_28_method_7_code
def yJ4_append_15ec4 : MethodName := ⟨RJ4, "append", "(Ljava/lang/String;)Ljava/lang/StringBuilder;"⟩
abbrev cJ4_append_cf468 : ByteArray := prog_28_method_14_code
def yJ4_append_cf468 : MethodName := ⟨RJ4, "append", "(C)Ljava/lang/StringBuilder;"⟩
abbrev cJ4_append_bf812 : ByteArray := prog_28_method_15_code
def yJ4_append_bf812 : MethodName := ⟨RJ4, "append", "(I)Ljava/lang/StringBuilder;"⟩
abbrev cJ4_toString_0e30d : ByteArray := prog_28_method_42_code
def yJ4_toString_0e30d : MethodName := ⟨RJ4, "toString", "()Ljava/lang/String;"⟩
abbrev cJ4_append_cf1ce : ByteArray := prog_28_method_80_code
def yJ4_append_cf1ce : MethodName := ⟨RJ4, "append", "(Ljava/lang/String;)Ljava/lang/AbstractStringBuilder;"⟩
abbrev cJ4_length_8abf5 : ByteArray := prog_28_method_93_code
def yJ4_length_8abf5 : MethodName := ⟨RJ4, "length", "()I"⟩
def RJ1 : String := "java/lang/StringLatin1"
def TJ1 : u_T := fun k => match k with
  | _ => ("", "", "", false)
def tyJ1 : Nat → FieldType := fun k => match k with
  | _ => .int
theorem nmJ1 : ∀ a, a < 0 → ∀ b, b < 0 → a ≠ b → (TJ1 a).2.1 ≠ (TJ1 b).2.1 := by decide +kernel
theorem tyJ1_ok : ∀ k, k < 0 → parseFieldDescriptor (TJ1 k).2.2.1 = some (tyJ1 k) := by decide +kernel
abbrev cJ1_charAt_3b067 : ByteArray := prog_29_method_2_code
def yJ1_charAt_3b067 : MethodName := ⟨RJ1, "charAt", "([BI)C"⟩
abbrev cJ1_canEncode_fc78d : ByteArray := prog_29_method_3_code
def yJ1_canEncode_fc78d : MethodName := ⟨RJ1, "canEncode", "(C)Z"⟩
abbrev cJ1_inflate_0e8fd : ByteArray := prog_29_method_50_code
def yJ1_inflate_0e8fd : MethodName := ⟨RJ1, "inflate", "([BI[BII)V"⟩
def RJ2 : String := "java/lang/StringUTF16"
def TJ2 : u_T := fun k => match k with
  | _ => ("", "", "", false)
def tyJ2 : Nat → FieldType := fun k => match k with
  | _ => .int
theorem nmJ2 : ∀ a, a < 0 → ∀ b, b < 0 → a ≠ b → (TJ2 a).2.1 ≠ (TJ2 b).2.1 := by decide +kernel
theorem tyJ2_ok : ∀ k, k < 0 → parseFieldDescriptor (TJ2 k).2.2.1 = some (tyJ2 k) := by decide +kernel
abbrev cJ2_newBytesFor_77867 : ByteArray := prog_30_method_2_code
def yJ2_newBytesFor_77867 : MethodName := ⟨RJ2, "newBytesFor", "(I)[B"⟩
abbrev cJ2_newBytesLength_0f7a4 : ByteArray := prog_30_method_3_code
def yJ2_newBytesLength_0f7a4 : MethodName := ⟨RJ2, "newBytesLength", "(I)I"⟩
abbrev cJ2_putChar_b72d1 : ByteArray := prog_30_method_4_code
def yJ2_putChar_b72d1 : MethodName := ⟨RJ2, "putChar", "([BII)V"⟩
abbrev cJ2_getChar_3b067 : ByteArray := prog_30_method_5_code
def yJ2_getChar_3b067 : MethodName := ⟨RJ2, "getChar", "([BI)C"⟩
abbrev cJ2_length_9d52b : ByteArray := prog_30_method_6_code
def yJ2_length_9d52b : MethodName := ⟨RJ2, "length", "([B)I"⟩
abbrev cJ2_coderFromArrayLen_85cad : ByteArray := prog_30_method_15_code
def yJ2_coderFromArrayLen_85cad : MethodName := ⟨RJ2, "coderFromArrayLen", "([BI)B"⟩
abbrev cJ2_compress_39247 : ByteArray := prog_30_method_17_code
def yJ2_compress_39247 : MethodName := ⟨RJ2, "compress", "([BII)[B"⟩
abbrev cJ2_compress_5af95 : ByteArray := prog_30_method_22_code
def yJ2_compress_5af95 : MethodName := ⟨RJ2, "compress", "([BI[BII)I"⟩
abbrev cJ2_putCharSB_b72d1 : ByteArray := prog_30_method_71_code
def yJ2_putCharSB_b72d1 : MethodName := ⟨RJ2, "putCharSB", "([BII)V"⟩
abbrev cJ2_getChars_46870 : ByteArray := prog_30_method_77_code
def yJ2_getChars_46870 : MethodName := ⟨RJ2, "getChars", "(III[B)I"⟩
abbrev cJ2_putCharsAt_cd4e5 : ByteArray := prog_30_method_81_code
def yJ2_putCharsAt_cd4e5 : MethodName := ⟨RJ2, "putCharsAt", "([BICCCC)I"⟩
abbrev cJ2_charAt_3b067 : ByteArray := prog_30_method_83_code
def yJ2_charAt_3b067 : MethodName := ⟨RJ2, "charAt", "([BI)C"⟩
abbrev cJ2_inflate_0e8fd : ByteArray := prog_30_method_86_code
def yJ2_inflate_0e8fd : MethodName := ⟨RJ2, "inflate", "([BI[BII)V"⟩
abbrev cJ2_getChars_ba4f3 : ByteArray := prog_30_method_89_code
def yJ2_getChars_ba4f3 : MethodName := ⟨RJ2, "getChars", "(II[B)I"⟩
abbrev cJ2_checkIndex_2214a : ByteArray := prog_30_method_91_code
def yJ2_checkIndex_2214a : MethodName := ⟨RJ2, "checkIndex", "(I[B)V"⟩
abbrev cJ2_checkBoundsBeginEnd_d044e : ByteArray := prog_30_method_93_code
def yJ2_checkBoundsBeginEnd_d044e : MethodName := ⟨RJ2, "checkBoundsBeginEnd", "(II[B)V"⟩
abbrev cJ2_checkBoundsOffCount_d044e : ByteArray := prog_30_method_94_code
def yJ2_checkBoundsOffCount_d044e : MethodName := ⟨RJ2, "checkBoundsOffCount", "(II[B)V"⟩
def RJ10 : String := "java/lang/System"
def TJ10 : u_T := fun k => match k with
  | _ => ("", "", "", false)
def tyJ10 : Nat → FieldType := fun k => match k with
  | _ => .int
theorem nmJ10 : ∀ a, a < 0 → ∀ b, b < 0 → a ≠ b → (TJ10 a).2.1 ≠ (TJ10 b).2.1 := by decide +kernel
theorem tyJ10_ok : ∀ k, k < 0 → parseFieldDescriptor (TJ10 k).2.2.1 = some (tyJ10 k) := by decide +kernel
def RJ7 : String := "java/util/Arrays"
def TJ7 : u_T := fun k => match k with
  | _ => ("", "", "", false)
def tyJ7 : Nat → FieldType := fun k => match k with
  | _ => .int
theorem nmJ7 : ∀ a, a < 0 → ∀ b, b < 0 → a ≠ b → (TJ7 a).2.1 ≠ (TJ7 b).2.1 := by decide +kernel
theorem tyJ7_ok : ∀ k, k < 0 → parseFieldDescriptor (TJ7 k).2.2.1 = some (tyJ7 k) := by decide +kernel
abbrev cJ7_fill_d0a16 : ByteArray := prog_33_method_101_code
def yJ7_fill_d0a16 : MethodName := ⟨RJ7, "fill", "([JJ)V"⟩
abbrev cJ7_fill_53178 : ByteArray := prog_33_method_103_code
def yJ7_fill_53178 : MethodName := ⟨RJ7, "fill", "([II)V"⟩
abbrev cJ7_copyOf_9075b : ByteArray := prog_33_method_121_code
def yJ7_copyOf_9075b : MethodName := ⟨RJ7, "copyOf", "([BI)[B"⟩
abbrev cJ7_checkLength_df160 : ByteArray := prog_33_method_131_code
def yJ7_checkLength_df160 : MethodName := ⟨RJ7, "checkLength", "(II)V"⟩
abbrev cJ7_copyOfRange_39247 : ByteArray := prog_33_method_132_code
def yJ7_copyOfRange_39247 : MethodName := ⟨RJ7, "copyOfRange", "([BII)[B"⟩
abbrev cJ7_copyOfRangeByte_39247 : ByteArray := prog_33_method_133_code
def yJ7_copyOfRangeByte_39247 : MethodName := ⟨RJ7, "copyOfRangeByte", "([BII)[B"⟩
def RJ8 : String := "jdk/internal/util/ArraysSupport"
def TJ8 : u_T := fun k => match k with
  | _ => ("", "", "", false)
def tyJ8 : Nat → FieldType := fun k => match k with
  | _ => .int
theorem nmJ8 : ∀ a, a < 0 → ∀ b, b < 0 → a ≠ b → (TJ8 a).2.1 ≠ (TJ8 b).2.1 := by decide +kernel
theorem tyJ8_ok : ∀ k, k < 0 → parseFieldDescriptor (TJ8 k).2.2.1 = some (tyJ8 k) := by decide +kernel
abbrev cJ8_newLength_cabcc : ByteArray := prog_34_method_27_code
def yJ8_newLength_cabcc : MethodName := ⟨RJ8, "newLength", "(III)I"⟩
abbrev cJ8_hugeLength_7cf53 : ByteArray := prog_34_method_28_code
def yJ8_hugeLength_7cf53 : MethodName := ⟨RJ8, "hugeLength", "(II)I"⟩
def RJ3 : String := "jdk/internal/util/Preconditions"
def TJ3 : u_T := fun k => match k with
  | _ => ("", "", "", false)
def tyJ3 : Nat → FieldType := fun k => match k with
  | _ => .int
theorem nmJ3 : ∀ a, a < 0 → ∀ b, b < 0 → a ≠ b → (TJ3 a).2.1 ≠ (TJ3 b).2.1 := by decide +kernel
theorem tyJ3_ok : ∀ k, k < 0 → parseFieldDescriptor (TJ3 k).2.2.1 = some (tyJ3 k) := by decide +kernel
abbrev cJ3_checkIndex_8e157 : ByteArray := prog_35_method_11_code
def yJ3_checkIndex_8e157 : MethodName := ⟨RJ3, "checkIndex", "(IILjava/util/function/BiFunction;)I"⟩
abbrev cJ3_checkFromToIndex_8c36e : ByteArray := prog_35_method_12_code
def yJ3_checkFromToIndex_8c36e : MethodName := ⟨RJ3, "checkFromToIndex", "(IIILjava/util/function/BiFunction;)I"⟩
abbrev cJ3_checkFromIndexSize_8c36e : ByteArray := prog_35_method_13_code
def yJ3_checkFromIndexSize_8c36e : MethodName := ⟨RJ3, "checkFromIndexSize", "(IIILjava/util/function/BiFunction;)I"⟩
def RL : String := "DecisionChainLaw"
abbrev cL_feeds : ByteArray := method_2_code
def yL_feeds : MethodName := ⟨RL, "feeds", "(LDecisionChain;Ljava/lang/String;)Z"⟩
abbrev cL_tell : ByteArray := method_3_code
def yL_tell : MethodName := ⟨RL, "tell", "(LDecisionChain;Ljava/lang/String;)I"⟩
abbrev cL_calls : ByteArray := method_4_code
def yL_calls : MethodName := ⟨RL, "calls", "(LDecisionChain;IIII)J"⟩
abbrev cL_thrown : ByteArray := method_5_code
def yL_thrown : MethodName := ⟨RL, "thrown", "(LDecisionChain;IIII)I"⟩
abbrev cL_isLike : ByteArray := method_6_code
def yL_isLike : MethodName := ⟨RL, "isLike", "(LDecisionChain;LDecisionChainLaw$Chain;)Z"⟩
abbrev cL_rules : ByteArray := method_7_code
def yL_rules : MethodName := ⟨RL, "rules", "(LDecisionChain;LDecisionChainLaw$Chain;LDecisionChainLaw$Draws;I)Z"⟩
abbrev cL_act : ByteArray := method_8_code
def yL_act : MethodName := ⟨RL, "act", "(LDecisionChain;LDecisionChainLaw$Chain;LDecisionChainLaw$Draws;)Z"⟩
abbrev cL_flows : ByteArray := method_9_code
def yL_flows : MethodName := ⟨RL, "flows", "(LDecisionChain;LDecisionChainLaw$Chain;)Z"⟩
abbrev cL_hit : ByteArray := method_10_code
def yL_hit : MethodName := ⟨RL, "hit", "(LDecisionChainLaw$Chain;III)J"⟩
abbrev cL_runs : ByteArray := method_11_code
def yL_runs : MethodName := ⟨RL, "runs", "(LDecisionChain;LDecisionChainLaw$Chain;)Z"⟩
abbrev cL_law : ByteArray := code
def yL_law : MethodName := ⟨RL, "law", "([I)Z"⟩
abbrev vwCl : List vw_C := [(RX0, TX0, 8), (RX1, TX1, 7), (RX2, TX2, 7), (RX3, TX3, 4), (RX4, TX4, 7), (RX5, TX5, 11), (RX6, TX6, 2), (RX7, TX7, 9), (RX8, TX8, 4), (RX9, TX9, 3), (RX10, TX10, 4), (RX11, TX11, 12), (RX12, TX12, 17), (RX13, TX13, 2), (RJ0, TJ0, 4), (RJ4, TJ4, 4)]
