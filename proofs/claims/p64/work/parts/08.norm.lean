/-! the made system: its objects by number, what their final references hold -/
def SH : List SE := [(17, 12), (8, 7), (2, 1200), (6, 8), (0, 6), (0, 18), (0, 54), (0, 108), (0, 108), (0, 18), (13, 9), (0, 18), (0, 6), (0, 3), (0, 6), (0, 5), (7, 7), (1, 36), (1, 36), (1, 36), (1, 36), (10, 7), (6, 8), (0, 6), (0, 18), (0, 54), (0, 108), (0, 108), (0, 18), (13, 9), (0, 18), (0, 6), (0, 3), (0, 6), (0, 5), (9, 4), (5, 7), (5, 2), (13, 9), (0, 18), (0, 6), (0, 3), (0, 6), (0, 5), (13, 9), (0, 18), (0, 6), (0, 3), (0, 6), (0, 5), (13, 9), (0, 18), (0, 6), (0, 3), (0, 6), (0, 5), (13, 9), (0, 18), (0, 6), (0, 3), (0, 6), (0, 5), (13, 9), (0, 18), (0, 6), (0, 3), (0, 6), (0, 5), (13, 9), (0, 18), (0, 6), (0, 3), (0, 6), (0, 5), (13, 9), (0, 18), (0, 6), (0, 3), (0, 6), (0, 5), (13, 9), (0, 18), (0, 6), (0, 3), (0, 6), (0, 5), (13, 9), (0, 18), (0, 6), (0, 3), (0, 6), (0, 5), (14, 4), (1, 2976), (1, 2976), (0, 36), (11, 11), (1, 729), (1, 2187), (0, 6), (0, 18), (0, 6), (15, 3), (1, 36), (16, 4), (12, 2), (2, 114), (0, 18)]
def srL : List (List (Option Nat)) := [[some 1, some 21, some 3, some 10, some 35, some 16, some 92, some 96, some 102, some 104, some 105, some 107], [some 2], [], [none, none, some 4, some 5, some 6, some 7, some 8, some 9], [], [], [], [], [], [], [some 11, some 12, some 13, none, none, none, none, some 14, some 15], [], [], [], [], [], [some 3, none, none, some 17, some 18, some 19, some 20], [], [], [], [], [some 22, some 29, none, none, some 1], [none, none, some 23, some 24, some 25, some 26, some 27, some 28], [], [], [], [], [], [], [some 30, some 31, some 32, none, none, none, none, some 33, some 34], [], [], [], [], [], [none, some 36, some 37], [], [], [some 39, some 40, some 41, none, none, none, none, some 42, some 43], [], [], [], [], [], [some 45, some 46, some 47, none, none, none, none, some 48, some 49], [], [], [], [], [], [some 51, some 52, some 53, none, none, none, none, some 54, some 55], [], [], [], [], [], [some 57, some 58, some 59, none, none, none, none, some 60, some 61], [], [], [], [], [], [some 63, some 64, some 65, none, none, none, none, some 66, some 67], [], [], [], [], [], [some 69, some 70, some 71, none, none, none, none, some 72, some 73], [], [], [], [], [], [some 75, some 76, some 77, none, none, none, none, some 78, some 79], [], [], [], [], [], [some 81, some 82, some 83, none, none, none, none, some 84, some 85], [], [], [], [], [], [some 87, some 88, some 89, none, none, none, none, some 90, some 91], [], [], [], [], [], [some 3, none, none, some 95], [], [], [], [some 3, some 10, some 16, some 97, some 98, none, none, none, some 99, some 100, some 101], [], [], [], [], [], [some 3, some 10, some 103], [], [some 3], [some 106], [], []]
def srT (o k : Nat) : Option Nat := (srL.getD o []).getD k none
def SRok (M : Mem) : Prop := ∀ o k j, srT o k = some j → gR M o k = some j
def STL : List (String × Nat × String × Nat) := [("DecisionChainLaw$Chain", 9, "chain states ", 10), ("DecisionChainLaw$Chain", 80, " horizon ", 11), ("DecisionChainLaw$Chain", 85, " seed ", 12), ("DecisionChainLaw$Chain", 90, ";budget ", 13), ("DecisionChainLaw$Chain", 105, ";act ", 14), ("DecisionChainLaw$Chain", 107, " -", 15), ("DecisionChainLaw$Chain", 109, " ", 16), ("DecisionChainLaw$Chain", 117, " uses ", 17), ("DecisionChainLaw$Chain", 122, " to ", 18), ("DecisionChainLaw$Chain", 124, ";rule ", 19), ("DecisionChainLaw$Chain", 103, ";start ", 20), ("DecisionChain", 114, "not so many bytes in the buffer", 21), ("DecisionChain$Parser", 89, "chain", 0), ("DecisionChain$Parser", 93, "states", 1), ("DecisionChain$Parser", 97, "horizon", 2), ("DecisionChain$Parser", 101, "seed", 3), ("DecisionChain$Parser", 105, "budget", 4), ("DecisionChain$Parser", 110, "act", 5), ("DecisionChain$Parser", 156, "uses", 6), ("DecisionChain$Parser", 164, "to", 7), ("DecisionChain$Parser", 115, "rule", 8), ("DecisionChain$Parser", 130, "start", 9), ("DecisionChain", 124, "the text has an error", 22), ("DecisionChain", 379, "no chain", 23), ("DecisionChain", 381, "no such state", 24), ("DecisionChain", 383, "no such action", 25), ("DecisionChain", 385, "no such budget", 26), ("DecisionChain", 391, "out of range", 27), ("DecisionChain", 283, "both actions are the same", 28), ("DecisionChain", 387, "no walk", 29), ("DecisionChain", 323, "no such byte", 30), ("DecisionChain", 329, "the weights do not sum to 10", 31), ("DecisionChain", 336, "no pure rule set holds the budgets", 32), ("DecisionChain", 345, "no action of the state would be permitted", 33), ("DecisionChain", 360, "nothing can be undone", 34), ("DecisionChain", 389, "no such slot", 35), ("DecisionChain", 374, "nothing is saved there", 36), ("java/util/Arrays", 337, " > ", 37)]
/-- the parser's words, by letters -/
def WL : List (List Nat) := [[99, 104, 97, 105, 110], [115, 116, 97, 116, 101, 115], [104, 111, 114, 105, 122, 111, 110], [115, 101, 101, 100], [98, 117, 100, 103, 101, 116], [97, 99, 116], [117, 115, 101, 115], [116, 111], [114, 117, 108, 101], [115, 116, 97, 114, 116], [99, 104, 97, 105, 110, 32, 115, 116, 97, 116, 101, 115, 32], [32, 104, 111, 114, 105, 122, 111, 110, 32], [32, 115, 101, 101, 100, 32], [59, 98, 117, 100, 103, 101, 116, 32], [59, 97, 99, 116, 32], [32, 45], [32], [32, 117, 115, 101, 115, 32], [32, 116, 111, 32], [59, 114, 117, 108, 101, 32], [59, 115, 116, 97, 114, 116, 32]]
def slen (t : Nat) : Int32 := nI (WL.getD t []).length
def rdS {β : Type} (t : Nat) (i : Int32) (k : Int32 → Option β) : Option β := if inB i (WL.getD t []).length = true then k (nI ((WL.getD t []).getD i.toNatClampNeg 0)) else none
def okF {β : Type} (r : UInt32) (k : Option β) : Option β := if r &&& 0x7fffffff ≤ 0x7f800000 then k else none
def sC (M : Mem) (a sp b dp n : Nat) : Mem := (fun o k => if o = b then va_cpy (gI M a) (gI M b) sp dp n k else M.1 o k, M.2.1, M.2.2)
def cpI {β : Type} (M : Mem) (a na : Nat) (sp : Int32) (b nb : Nat) (dp n : Int32) (k : Mem → Option β) : Option β :=
  if ¬ sp < 0 ∧ ¬ dp < 0 ∧ ¬ n < 0 ∧ sp.toNatClampNeg + n.toNatClampNeg ≤ na ∧ dp.toNatClampNeg + n.toNatClampNeg ≤ nb then k (sC M a sp.toNatClampNeg b dp.toNatClampNeg n.toNatClampNeg) else none
/-- the byte rows of the parser's words in the first state -/
def wBy (t j : Nat) : Int32 := nI ((WL.getD t []).getD j 0)
/-- Integer's two rows of digits -/
def HDg (Γ : WC) : Prop := (va_Z "java/lang/Integer" "DigitOnes" "[B" (.ref (wst Γ 50)) (fAg Γ) (wU Γ) (wU Γ).heap ∧ va_T .byte (wst Γ 50) 100 (fun j => .int (nI (48 + j % 10))) (fAg Γ) (wU Γ) (wU Γ).heap) ∧
  va_Z "java/lang/Integer" "DigitTens" "[B" (.ref (wst Γ 51)) (fAg Γ) (wU Γ) (wU Γ).heap ∧ va_T .byte (wst Γ 51) 100 (fun j => .int (nI (48 + j / 10))) (fAg Γ) (wU Γ) (wU Γ).heap
/-- the texts of a context -/
def HS (Γ : WC) : Prop := (∀ q ∈ STL, vk_R q.1 q.2.1 q.2.2.1 (wst Γ q.2.2.2) (wU Γ)) ∧
  vk_S 21 (WL.map List.length) (WL.map (fun l => l.map nI)) (wst Γ) (wsv Γ) (fAg Γ) (wU Γ) (wU Γ).heap ∧ va_Z "java/lang/String" "COMPACT_STRINGS" "Z" (.int 1) (fAg Γ) (wU Γ) (wU Γ).heap ∧ va_Zq "jdk/internal/util/Preconditions" "SIOOBE_FORMATTER" "Ljava/util/function/BiFunction;" (fAg Γ) (wU Γ) (wU Γ).heap ∧ HDg Γ
theorem HS.st {Γ : WC} (h : HS Γ) {i : Nat} {own tx : String} {k t : Nat} (hi : STL[i]? = some (own, k, tx, t)) : vk_R own k tx (wst Γ t) (wU Γ) := h.1 _ (List.mem_of_getElem? hi)
/-- a context in which the class's objects are there -/
def HN (Γ : WC) : Prop := HG Γ ∧ (∀ o e, SH[o]? = some e → On Γ o e) ∧ (∀ o k j, srT o k = some j → ∀ M, wK Γ M → gR M o k = some j) ∧ (∀ o k v, o < 108 → v < 108 → srT o k = none → ∀ M, wK Γ M → wK Γ (sR M o k (some v))) ∧ HS Γ
theorem HN.sh {Γ : WC} (h : HN Γ) {o : Nat} {e : SE} (hs : SH[o]? = some e) : On Γ o e := h.2.1 o e hs
theorem HN.sr {Γ : WC} (h : HN Γ) {o k j : Nat} (hs : srT o k = some j) : ∀ M, wK Γ M → gR M o k = some j := h.2.2.1 o k j hs
theorem HN.kr {Γ : WC} (h : HN Γ) {o k v : Nat} (ho : o < 108) (hv : v < 108) (hs : srT o k = none) : ∀ M, wK Γ M → wK Γ (sR M o k (some v)) := h.2.2.2.1 o k v ho hv hs
theorem HN.hs {Γ : WC} (h : HN Γ) : HS Γ := h.2.2.2.2
def HT (Γ : WC) : Prop := HG Γ ∧ HS Γ
theorem HN.ht {Γ : WC} (h : HN Γ) : HT Γ := ⟨h.1, h.hs⟩
theorem shlt {o : Nat} {e : SE} (h : SH[o]? = some e) : o < 108 := (List.getElem?_eq_some_iff.mp h).1
theorem HN.st {Γ : WC} (h : HN Γ) {i : Nat} {own tx : String} {k t : Nat} (hi : STL[i]? = some (own, k, tx, t)) : vk_R own k tx (wst Γ t) (wU Γ) := h.hs.st hi
theorem HN.rc {Γ : WC} (h : HN Γ) {o ci nn : Nat} (hs : SH[o]? = some (ci + 6, nn)) {q : vw_C} (hq : vwCl[ci]? = some q) : RC Γ o q.1 := ⟨ci, nn, q, h.sh hs, hq, rfl⟩
theorem x_join {τ β : Type} {R : τ → Option β} {B : (τ → Option β) → Option β} {rM : β} {P : Prop} (hf : jn R B = some rM) (S : τ → Prop) (h1 : ∀ t, R t = some rM → S t) (h2 : ∀ j : τ → Option β, (∀ t, j t = some rM → S t) → B j = some rM → P) : P := h2 R h1 hf
theorem sh0 : SH[0]? = some (17, 12) := rfl
theorem sh1 : SH[1]? = some (8, 7) := rfl
theorem sh2 : SH[2]? = some (2, 1200) := rfl
theorem sh3 : SH[3]? = some (6, 8) := rfl
theorem sh4 : SH[4]? = some (0, 6) := rfl
theorem sh5 : SH[5]? = some (0, 18) := rfl
theorem sh6 : SH[6]? = some (0, 54) := rfl
theorem sh7 : SH[7]? = some (0, 108) := rfl
theorem sh8 : SH[8]? = some (0, 108) := rfl
theorem sh9 : SH[9]? = some (0, 18) := rfl
theorem sh10 : SH[10]? = some (13, 9) := rfl
theorem sh11 : SH[11]? = some (0, 18) := rfl
theorem sh12 : SH[12]? = some (0, 6) := rfl
theorem sh13 : SH[13]? = some (0, 3) := rfl
theorem sh14 : SH[14]? = some (0, 6) := rfl
theorem sh15 : SH[15]? = some (0, 5) := rfl
theorem sh16 : SH[16]? = some (7, 7) := rfl
theorem sh17 : SH[17]? = some (1, 36) := rfl
theorem sh18 : SH[18]? = some (1, 36) := rfl
theorem sh19 : SH[19]? = some (1, 36) := rfl
theorem sh20 : SH[20]? = some (1, 36) := rfl
theorem sh21 : SH[21]? = some (10, 7) := rfl
theorem sh22 : SH[22]? = some (6, 8) := rfl
theorem sh23 : SH[23]? = some (0, 6) := rfl
theorem sh24 : SH[24]? = some (0, 18) := rfl
theorem sh25 : SH[25]? = some (0, 54) := rfl
theorem sh26 : SH[26]? = some (0, 108) := rfl
theorem sh27 : SH[27]? = some (0, 108) := rfl
theorem sh28 : SH[28]? = some (0, 18) := rfl
theorem sh29 : SH[29]? = some (13, 9) := rfl
theorem sh30 : SH[30]? = some (0, 18) := rfl
theorem sh31 : SH[31]? = some (0, 6) := rfl
theorem sh32 : SH[32]? = some (0, 3) := rfl
theorem sh33 : SH[33]? = some (0, 6) := rfl
theorem sh34 : SH[34]? = some (0, 5) := rfl
theorem sh35 : SH[35]? = some (9, 4) := rfl
theorem sh36 : SH[36]? = some (5, 7) := rfl
theorem sh37 : SH[37]? = some (5, 2) := rfl
theorem sh38 : SH[38]? = some (13, 9) := rfl
theorem sh39 : SH[39]? = some (0, 18) := rfl
theorem sh40 : SH[40]? = some (0, 6) := rfl
theorem sh41 : SH[41]? = some (0, 3) := rfl
theorem sh42 : SH[42]? = some (0, 6) := rfl
theorem sh43 : SH[43]? = some (0, 5) := rfl
theorem sh44 : SH[44]? = some (13, 9) := rfl
theorem sh45 : SH[45]? = some (0, 18) := rfl
theorem sh46 : SH[46]? = some (0, 6) := rfl
theorem sh47 : SH[47]? = some (0, 3) := rfl
theorem sh48 : SH[48]? = some (0, 6) := rfl
theorem sh49 : SH[49]? = some (0, 5) := rfl
theorem sh50 : SH[50]? = some (13, 9) := rfl
theorem sh51 : SH[51]? = some (0, 18) := rfl
theorem sh52 : SH[52]? = some (0, 6) := rfl
theorem sh53 : SH[53]? = some (0, 3) := rfl
theorem sh54 : SH[54]? = some (0, 6) := rfl
theorem sh55 : SH[55]? = some (0, 5) := rfl
theorem sh56 : SH[56]? = some (13, 9) := rfl
theorem sh57 : SH[57]? = some (0, 18) := rfl
theorem sh58 : SH[58]? = some (0, 6) := rfl
theorem sh59 : SH[59]? = some (0, 3) := rfl
theorem sh60 : SH[60]? = some (0, 6) := rfl
theorem sh61 : SH[61]? = some (0, 5) := rfl
theorem sh62 : SH[62]? = some (13, 9) := rfl
theorem sh63 : SH[63]? = some (0, 18) := rfl
theorem sh64 : SH[64]? = some (0, 6) := rfl
theorem sh65 : SH[65]? = some (0, 3) := rfl
theorem sh66 : SH[66]? = some (0, 6) := rfl
theorem sh67 : SH[67]? = some (0, 5) := rfl
theorem sh68 : SH[68]? = some (13, 9) := rfl
theorem sh69 : SH[69]? = some (0, 18) := rfl
theorem sh70 : SH[70]? = some (0, 6) := rfl
theorem sh71 : SH[71]? = some (0, 3) := rfl
theorem sh72 : SH[72]? = some (0, 6) := rfl
theorem sh73 : SH[73]? = some (0, 5) := rfl
theorem sh74 : SH[74]? = some (13, 9) := rfl
theorem sh75 : SH[75]? = some (0, 18) := rfl
theorem sh76 : SH[76]? = some (0, 6) := rfl
theorem sh77 : SH[77]? = some (0, 3) := rfl
theorem sh78 : SH[78]? = some (0, 6) := rfl
theorem sh79 : SH[79]? = some (0, 5) := rfl
theorem sh80 : SH[80]? = some (13, 9) := rfl
theorem sh81 : SH[81]? = some (0, 18) := rfl
theorem sh82 : SH[82]? = some (0, 6) := rfl
theorem sh83 : SH[83]? = some (0, 3) := rfl
theorem sh84 : SH[84]? = some (0, 6) := rfl
theorem sh85 : SH[85]? = some (0, 5) := rfl
theorem sh86 : SH[86]? = some (13, 9) := rfl
theorem sh87 : SH[87]? = some (0, 18) := rfl
theorem sh88 : SH[88]? = some (0, 6) := rfl
theorem sh89 : SH[89]? = some (0, 3) := rfl
theorem sh90 : SH[90]? = some (0, 6) := rfl
theorem sh91 : SH[91]? = some (0, 5) := rfl
theorem sh92 : SH[92]? = some (14, 4) := rfl
theorem sh93 : SH[93]? = some (1, 2976) := rfl
theorem sh94 : SH[94]? = some (1, 2976) := rfl
theorem sh95 : SH[95]? = some (0, 36) := rfl
theorem sh96 : SH[96]? = some (11, 11) := rfl
theorem sh97 : SH[97]? = some (1, 729) := rfl
theorem sh98 : SH[98]? = some (1, 2187) := rfl
theorem sh99 : SH[99]? = some (0, 6) := rfl
theorem sh100 : SH[100]? = some (0, 18) := rfl
theorem sh101 : SH[101]? = some (0, 6) := rfl
theorem sh102 : SH[102]? = some (15, 3) := rfl
theorem sh103 : SH[103]? = some (1, 36) := rfl
theorem sh104 : SH[104]? = some (16, 4) := rfl
theorem sh105 : SH[105]? = some (12, 2) := rfl
theorem sh106 : SH[106]? = some (2, 114) := rfl
theorem sh107 : SH[107]? = some (0, 18) := rfl
theorem sr0_0 : srT 0 0 = some 1 := rfl
theorem sr0_1 : srT 0 1 = some 21 := rfl
theorem sr0_2 : srT 0 2 = some 3 := rfl
theorem sr0_3 : srT 0 3 = some 10 := rfl
theorem sr0_4 : srT 0 4 = some 35 := rfl
theorem sr0_5 : srT 0 5 = some 16 := rfl
theorem sr0_6 : srT 0 6 = some 92 := rfl
theorem sr0_7 : srT 0 7 = some 96 := rfl
theorem sr0_8 : srT 0 8 = some 102 := rfl
theorem sr0_9 : srT 0 9 = some 104 := rfl
theorem sr0_10 : srT 0 10 = some 105 := rfl
theorem sr0_11 : srT 0 11 = some 107 := rfl
theorem sr1_0 : srT 1 0 = some 2 := rfl
theorem sr3_2 : srT 3 2 = some 4 := rfl
theorem sr3_3 : srT 3 3 = some 5 := rfl
theorem sr3_4 : srT 3 4 = some 6 := rfl
theorem sr3_5 : srT 3 5 = some 7 := rfl
theorem sr3_6 : srT 3 6 = some 8 := rfl
theorem sr3_7 : srT 3 7 = some 9 := rfl
theorem sr10_0 : srT 10 0 = some 11 := rfl
theorem sr10_1 : srT 10 1 = some 12 := rfl
theorem sr10_2 : srT 10 2 = some 13 := rfl
theorem sr10_7 : srT 10 7 = some 14 := rfl
theorem sr10_8 : srT 10 8 = some 15 := rfl
theorem sr16_0 : srT 16 0 = some 3 := rfl
theorem sr16_3 : srT 16 3 = some 17 := rfl
theorem sr16_4 : srT 16 4 = some 18 := rfl
theorem sr16_5 : srT 16 5 = some 19 := rfl
theorem sr16_6 : srT 16 6 = some 20 := rfl
theorem sr21_0 : srT 21 0 = some 22 := rfl
theorem sr21_1 : srT 21 1 = some 29 := rfl
theorem sr21_4 : srT 21 4 = some 1 := rfl
theorem sr22_2 : srT 22 2 = some 23 := rfl
theorem sr22_3 : srT 22 3 = some 24 := rfl
theorem sr22_4 : srT 22 4 = some 25 := rfl
theorem sr22_5 : srT 22 5 = some 26 := rfl
theorem sr22_6 : srT 22 6 = some 27 := rfl
theorem sr22_7 : srT 22 7 = some 28 := rfl
theorem sr29_0 : srT 29 0 = some 30 := rfl
theorem sr29_1 : srT 29 1 = some 31 := rfl
theorem sr29_2 : srT 29 2 = some 32 := rfl
theorem sr29_7 : srT 29 7 = some 33 := rfl
theorem sr29_8 : srT 29 8 = some 34 := rfl
theorem sr35_1 : srT 35 1 = some 36 := rfl
theorem sr35_2 : srT 35 2 = some 37 := rfl
theorem sr38_0 : srT 38 0 = some 39 := rfl
theorem sr38_1 : srT 38 1 = some 40 := rfl
theorem sr38_2 : srT 38 2 = some 41 := rfl
theorem sr38_7 : srT 38 7 = some 42 := rfl
theorem sr38_8 : srT 38 8 = some 43 := rfl
theorem sr44_0 : srT 44 0 = some 45 := rfl
theorem sr44_1 : srT 44 1 = some 46 := rfl
theorem sr44_2 : srT 44 2 = some 47 := rfl
theorem sr44_7 : srT 44 7 = some 48 := rfl
theorem sr44_8 : srT 44 8 = some 49 := rfl
theorem sr50_0 : srT 50 0 = some 51 := rfl
theorem sr50_1 : srT 50 1 = some 52 := rfl
theorem sr50_2 : srT 50 2 = some 53 := rfl
theorem sr50_7 : srT 50 7 = some 54 := rfl
theorem sr50_8 : srT 50 8 = some 55 := rfl
theorem sr56_0 : srT 56 0 = some 57 := rfl
theorem sr56_1 : srT 56 1 = some 58 := rfl
theorem sr56_2 : srT 56 2 = some 59 := rfl
theorem sr56_7 : srT 56 7 = some 60 := rfl
theorem sr56_8 : srT 56 8 = some 61 := rfl
theorem sr62_0 : srT 62 0 = some 63 := rfl
theorem sr62_1 : srT 62 1 = some 64 := rfl
theorem sr62_2 : srT 62 2 = some 65 := rfl
theorem sr62_7 : srT 62 7 = some 66 := rfl
theorem sr62_8 : srT 62 8 = some 67 := rfl
theorem sr68_0 : srT 68 0 = some 69 := rfl
theorem sr68_1 : srT 68 1 = some 70 := rfl
theorem sr68_2 : srT 68 2 = some 71 := rfl
theorem sr68_7 : srT 68 7 = some 72 := rfl
theorem sr68_8 : srT 68 8 = some 73 := rfl
theorem sr74_0 : srT 74 0 = some 75 := rfl
theorem sr74_1 : srT 74 1 = some 76 := rfl
theorem sr74_2 : srT 74 2 = some 77 := rfl
theorem sr74_7 : srT 74 7 = some 78 := rfl
theorem sr74_8 : srT 74 8 = some 79 := rfl
theorem sr80_0 : srT 80 0 = some 81 := rfl
theorem sr80_1 : srT 80 1 = some 82 := rfl
theorem sr80_2 : srT 80 2 = some 83 := rfl
theorem sr80_7 : srT 80 7 = some 84 := rfl
theorem sr80_8 : srT 80 8 = some 85 := rfl
theorem sr86_0 : srT 86 0 = some 87 := rfl
theorem sr86_1 : srT 86 1 = some 88 := rfl
theorem sr86_2 : srT 86 2 = some 89 := rfl
theorem sr86_7 : srT 86 7 = some 90 := rfl
theorem sr86_8 : srT 86 8 = some 91 := rfl
theorem sr92_0 : srT 92 0 = some 3 := rfl
theorem sr92_3 : srT 92 3 = some 95 := rfl
theorem sr96_0 : srT 96 0 = some 3 := rfl
theorem sr96_1 : srT 96 1 = some 10 := rfl
theorem sr96_2 : srT 96 2 = some 16 := rfl
theorem sr96_3 : srT 96 3 = some 97 := rfl
theorem sr96_4 : srT 96 4 = some 98 := rfl
theorem sr96_8 : srT 96 8 = some 99 := rfl
theorem sr96_9 : srT 96 9 = some 100 := rfl
theorem sr96_10 : srT 96 10 = some 101 := rfl
theorem sr102_0 : srT 102 0 = some 3 := rfl
theorem sr102_1 : srT 102 1 = some 10 := rfl
theorem sr102_2 : srT 102 2 = some 103 := rfl
theorem sr104_0 : srT 104 0 = some 3 := rfl
theorem sr105_0 : srT 105 0 = some 106 := rfl
theorem sh_7_0 {o : Nat} (h : SH[o]? = some (13, 9)) : SH[o + 1]? = some (0, 18) := by
  have ho : o < 108 := (List.getElem?_eq_some_iff.mp h).1
  have key : ∀ o, o < 108 → SH[o]? = some (13, 9) → SH[o + 1]? = some (0, 18) := by decide +kernel
  exact key o ho h
theorem sr_7_0 {o : Nat} (h : SH[o]? = some (13, 9)) : srT o 0 = some (o + 1) := by
  have ho : o < 108 := (List.getElem?_eq_some_iff.mp h).1
  have key : ∀ o, o < 108 → SH[o]? = some (13, 9) → srT o 0 = some (o + 1) := by decide +kernel
  exact key o ho h
theorem sh_7_1 {o : Nat} (h : SH[o]? = some (13, 9)) : SH[o + 2]? = some (0, 6) := by
  have ho : o < 108 := (List.getElem?_eq_some_iff.mp h).1
  have key : ∀ o, o < 108 → SH[o]? = some (13, 9) → SH[o + 2]? = some (0, 6) := by decide +kernel
  exact key o ho h
theorem sr_7_1 {o : Nat} (h : SH[o]? = some (13, 9)) : srT o 1 = some (o + 2) := by
  have ho : o < 108 := (List.getElem?_eq_some_iff.mp h).1
  have key : ∀ o, o < 108 → SH[o]? = some (13, 9) → srT o 1 = some (o + 2) := by decide +kernel
  exact key o ho h
theorem sh_7_2 {o : Nat} (h : SH[o]? = some (13, 9)) : SH[o + 3]? = some (0, 3) := by
  have ho : o < 108 := (List.getElem?_eq_some_iff.mp h).1
  have key : ∀ o, o < 108 → SH[o]? = some (13, 9) → SH[o + 3]? = some (0, 3) := by decide +kernel
  exact key o ho h
theorem sr_7_2 {o : Nat} (h : SH[o]? = some (13, 9)) : srT o 2 = some (o + 3) := by
  have ho : o < 108 := (List.getElem?_eq_some_iff.mp h).1
  have key : ∀ o, o < 108 → SH[o]? = some (13, 9) → srT o 2 = some (o + 3) := by decide +kernel
  exact key o ho h
theorem sh_7_7 {o : Nat} (h : SH[o]? = some (13, 9)) : SH[o + 4]? = some (0, 6) := by
  have ho : o < 108 := (List.getElem?_eq_some_iff.mp h).1
  have key : ∀ o, o < 108 → SH[o]? = some (13, 9) → SH[o + 4]? = some (0, 6) := by decide +kernel
  exact key o ho h
theorem sr_7_7 {o : Nat} (h : SH[o]? = some (13, 9)) : srT o 7 = some (o + 4) := by
  have ho : o < 108 := (List.getElem?_eq_some_iff.mp h).1
  have key : ∀ o, o < 108 → SH[o]? = some (13, 9) → srT o 7 = some (o + 4) := by decide +kernel
  exact key o ho h
theorem sh_7_8 {o : Nat} (h : SH[o]? = some (13, 9)) : SH[o + 5]? = some (0, 5) := by
  have ho : o < 108 := (List.getElem?_eq_some_iff.mp h).1
  have key : ∀ o, o < 108 → SH[o]? = some (13, 9) → SH[o + 5]? = some (0, 5) := by decide +kernel
  exact key o ho h
theorem sr_7_8 {o : Nat} (h : SH[o]? = some (13, 9)) : srT o 8 = some (o + 5) := by
  have ho : o < 108 := (List.getElem?_eq_some_iff.mp h).1
  have key : ∀ o, o < 108 → SH[o]? = some (13, 9) → srT o 8 = some (o + 5) := by decide +kernel
  exact key o ho h
theorem sh_0_2 {o : Nat} (h : SH[o]? = some (6, 8)) : SH[o + 1]? = some (0, 6) := by
  have ho : o < 108 := (List.getElem?_eq_some_iff.mp h).1
  have key : ∀ o, o < 108 → SH[o]? = some (6, 8) → SH[o + 1]? = some (0, 6) := by decide +kernel
  exact key o ho h
theorem sr_0_2 {o : Nat} (h : SH[o]? = some (6, 8)) : srT o 2 = some (o + 1) := by
  have ho : o < 108 := (List.getElem?_eq_some_iff.mp h).1
  have key : ∀ o, o < 108 → SH[o]? = some (6, 8) → srT o 2 = some (o + 1) := by decide +kernel
  exact key o ho h
theorem sh_0_3 {o : Nat} (h : SH[o]? = some (6, 8)) : SH[o + 2]? = some (0, 18) := by
  have ho : o < 108 := (List.getElem?_eq_some_iff.mp h).1
  have key : ∀ o, o < 108 → SH[o]? = some (6, 8) → SH[o + 2]? = some (0, 18) := by decide +kernel
  exact key o ho h
theorem sr_0_3 {o : Nat} (h : SH[o]? = some (6, 8)) : srT o 3 = some (o + 2) := by
  have ho : o < 108 := (List.getElem?_eq_some_iff.mp h).1
  have key : ∀ o, o < 108 → SH[o]? = some (6, 8) → srT o 3 = some (o + 2) := by decide +kernel
  exact key o ho h
theorem sh_0_4 {o : Nat} (h : SH[o]? = some (6, 8)) : SH[o + 3]? = some (0, 54) := by
  have ho : o < 108 := (List.getElem?_eq_some_iff.mp h).1
  have key : ∀ o, o < 108 → SH[o]? = some (6, 8) → SH[o + 3]? = some (0, 54) := by decide +kernel
  exact key o ho h
theorem sr_0_4 {o : Nat} (h : SH[o]? = some (6, 8)) : srT o 4 = some (o + 3) := by
  have ho : o < 108 := (List.getElem?_eq_some_iff.mp h).1
  have key : ∀ o, o < 108 → SH[o]? = some (6, 8) → srT o 4 = some (o + 3) := by decide +kernel
  exact key o ho h
theorem sh_0_5 {o : Nat} (h : SH[o]? = some (6, 8)) : SH[o + 4]? = some (0, 108) := by
  have ho : o < 108 := (List.getElem?_eq_some_iff.mp h).1
  have key : ∀ o, o < 108 → SH[o]? = some (6, 8) → SH[o + 4]? = some (0, 108) := by decide +kernel
  exact key o ho h
theorem sr_0_5 {o : Nat} (h : SH[o]? = some (6, 8)) : srT o 5 = some (o + 4) := by
  have ho : o < 108 := (List.getElem?_eq_some_iff.mp h).1
  have key : ∀ o, o < 108 → SH[o]? = some (6, 8) → srT o 5 = some (o + 4) := by decide +kernel
  exact key o ho h
theorem sh_0_6 {o : Nat} (h : SH[o]? = some (6, 8)) : SH[o + 5]? = some (0, 108) := by
  have ho : o < 108 := (List.getElem?_eq_some_iff.mp h).1
  have key : ∀ o, o < 108 → SH[o]? = some (6, 8) → SH[o + 5]? = some (0, 108) := by decide +kernel
  exact key o ho h
theorem sr_0_6 {o : Nat} (h : SH[o]? = some (6, 8)) : srT o 6 = some (o + 5) := by
  have ho : o < 108 := (List.getElem?_eq_some_iff.mp h).1
  have key : ∀ o, o < 108 → SH[o]? = some (6, 8) → srT o 6 = some (o + 5) := by decide +kernel
  exact key o ho h
theorem sh_0_7 {o : Nat} (h : SH[o]? = some (6, 8)) : SH[o + 6]? = some (0, 18) := by
  have ho : o < 108 := (List.getElem?_eq_some_iff.mp h).1
  have key : ∀ o, o < 108 → SH[o]? = some (6, 8) → SH[o + 6]? = some (0, 18) := by decide +kernel
  exact key o ho h
theorem sr_0_7 {o : Nat} (h : SH[o]? = some (6, 8)) : srT o 7 = some (o + 6) := by
  have ho : o < 108 := (List.getElem?_eq_some_iff.mp h).1
  have key : ∀ o, o < 108 → SH[o]? = some (6, 8) → srT o 7 = some (o + 6) := by decide +kernel
  exact key o ho h
