/-! the class as it is made -/
/-- the class's objects as in C, all others as in M0 -/
def CE (M0 M C : Mem) : Prop := (∀ o, 108 ≤ o → gI M o = gI M0 o ∧ gL M o = gL M0 o ∧ gR M o = gR M0 o) ∧ (∀ o, o < 108 → gI M o = gI C o ∧ gL M o = gL C o ∧ gR M o = gR C o) ∧ ∀ o, o < 108 → ∀ k j, gR M o k = some j → j < 108
theorem CE.sI {M0 M C : Mem} {o k : Nat} {v : Int32} (h : CE M0 M C) (ho : o < 108) : CE M0 (sI M o k v) (sI C o k v) := by
  refine ⟨fun a ha => ⟨by rw [gI_sI', if_neg (by omega)]; exact (h.1 a ha).1, (h.1 a ha).2⟩, fun a ha => ⟨?_, (h.2.1 a ha).2⟩, h.2.2⟩
  rw [gI_sI', gI_sI', (h.2.1 a ha).1]
theorem gR_sR' (M : Mem) (o k : Nat) (v : Option Nat) (a : Nat) : gR (sR M o k v) a = if a = o then (fun b => if b = k then v else gR M a b) else gR M a := by
  funext b
  rw [gR_sR]
  by_cases c : a = o
  · rw [if_pos c]
    by_cases d : b = k
    · rw [if_pos ⟨c, d⟩]
      exact (if_pos d).symm
    · rw [if_neg (fun z => d z.2)]
      exact (if_neg d).symm
  · rw [if_neg (fun z => c z.1), if_neg c]
theorem CE.sR {M0 M C : Mem} {o k v : Nat} (h : CE M0 M C) (ho : o < 108) (hv : v < 108) : CE M0 (sR M o k (some v)) (sR C o k (some v)) := by
  refine ⟨fun a ha => ⟨(h.1 a ha).1, (h.1 a ha).2.1, by rw [gR_sR', if_neg (by omega)]; exact (h.1 a ha).2.2⟩, fun a ha => ⟨(h.2.1 a ha).1, (h.2.1 a ha).2.1, ?_⟩, fun a ha b j hj => ?_⟩
  · rw [gR_sR', gR_sR', (h.2.1 a ha).2.2]
  · rw [gR_sR] at hj
    split at hj
    · have := Option.some.inj hj
      omega
    · exact h.2.2 a ha b j hj
theorem CE.zero {M0 : Mem} (h : Zc 0 M0) : CE M0 M0 mem0 := ⟨fun _ _ => ⟨rfl, rfl, rfl⟩, fun o ho => ⟨funext fun k => (h.1 o (Nat.zero_le _) ho).1 k, funext fun k => (h.1 o (Nat.zero_le _) ho).2.1 k, funext fun k => (h.1 o (Nat.zero_le _) ho).2.2 k⟩, fun o ho k j hj => by
  rw [(h.1 o (Nat.zero_le _) ho).2.2 k] at hj
  exact nomatch hj⟩
theorem ce1 {M : Mem} (h : Zc 0 M) : CE M (mm1 M) (mm1 mem0) := CE.sR (CE.zero h) (by decide) (by decide)
theorem ce2 {M : Mem} (h : Zc 0 M) : CE M (mm2 M) (mm2 mem0) := CE.sR (ce1 h) (by decide) (by decide)
theorem ce3 {M : Mem} (h : Zc 0 M) : CE M (mm3 M) (mm3 mem0) := CE.sR (ce2 h) (by decide) (by decide)
theorem ce4 {M : Mem} (h : Zc 0 M) : CE M (mm4 M) (mm4 mem0) := CE.sR (ce3 h) (by decide) (by decide)
theorem ce5 {M : Mem} (h : Zc 0 M) : CE M (mm5 M) (mm5 mem0) := CE.sR (ce4 h) (by decide) (by decide)
theorem ce6 {M : Mem} (h : Zc 0 M) : CE M (mm6 M) (mm6 mem0) := CE.sR (ce5 h) (by decide) (by decide)
theorem ce7 {M : Mem} (h : Zc 0 M) : CE M (mm7 M) (mm7 mem0) := CE.sR (ce6 h) (by decide) (by decide)
theorem ce8 {M : Mem} (h : Zc 0 M) : CE M (mm8 M) (mm8 mem0) := CE.sR (ce7 h) (by decide) (by decide)
theorem ce9 {M : Mem} (h : Zc 0 M) : CE M (mm9 M) (mm9 mem0) := CE.sR (ce8 h) (by decide) (by decide)
theorem ce10 {M : Mem} (h : Zc 0 M) : CE M (mm10 M) (mm10 mem0) := CE.sR (ce9 h) (by decide) (by decide)
theorem ce11 {M : Mem} (h : Zc 0 M) : CE M (mm11 M) (mm11 mem0) := CE.sI (ce10 h) (by decide)
theorem ce12 {M : Mem} (h : Zc 0 M) : CE M (mm12 M) (mm12 mem0) := CE.sR (ce11 h) (by decide) (by decide)
theorem ce13 {M : Mem} (h : Zc 0 M) : CE M (mm13 M) (mm13 mem0) := CE.sR (ce12 h) (by decide) (by decide)
theorem ce14 {M : Mem} (h : Zc 0 M) : CE M (mm14 M) (mm14 mem0) := CE.sR (ce13 h) (by decide) (by decide)
theorem ce15 {M : Mem} (h : Zc 0 M) : CE M (mm15 M) (mm15 mem0) := CE.sR (ce14 h) (by decide) (by decide)
theorem ce16 {M : Mem} (h : Zc 0 M) : CE M (mm16 M) (mm16 mem0) := CE.sR (ce15 h) (by decide) (by decide)
theorem ce17 {M : Mem} (h : Zc 0 M) : CE M (mm17 M) (mm17 mem0) := CE.sR (ce16 h) (by decide) (by decide)
theorem ce18 {M : Mem} (h : Zc 0 M) : CE M (mm18 M) (mm18 mem0) := CE.sR (ce17 h) (by decide) (by decide)
theorem ce19 {M : Mem} (h : Zc 0 M) : CE M (mm19 M) (mm19 mem0) := CE.sR (ce18 h) (by decide) (by decide)
theorem ce20 {M : Mem} (h : Zc 0 M) : CE M (mm20 M) (mm20 mem0) := CE.sR (ce19 h) (by decide) (by decide)
theorem ce21 {M : Mem} (h : Zc 0 M) : CE M (mm21 M) (mm21 mem0) := CE.sR (ce20 h) (by decide) (by decide)
theorem ce22 {M : Mem} (h : Zc 0 M) : CE M (mm22 M) (mm22 mem0) := CE.sR (ce21 h) (by decide) (by decide)
theorem ce23 {M : Mem} (h : Zc 0 M) : CE M (mm23 M) (mm23 mem0) := CE.sR (ce22 h) (by decide) (by decide)
theorem ce24 {M : Mem} (h : Zc 0 M) : CE M (mm24 M) (mm24 mem0) := CE.sR (ce23 h) (by decide) (by decide)
theorem ce25 {M : Mem} (h : Zc 0 M) : CE M (mm25 M) (mm25 mem0) := CE.sR (ce24 h) (by decide) (by decide)
theorem ce26 {M : Mem} (h : Zc 0 M) : CE M (mm26 M) (mm26 mem0) := CE.sR (ce25 h) (by decide) (by decide)
theorem ce27 {M : Mem} (h : Zc 0 M) : CE M (mm27 M) (mm27 mem0) := CE.sR (ce26 h) (by decide) (by decide)
theorem ce28 {M : Mem} (h : Zc 0 M) : CE M (mm28 M) (mm28 mem0) := CE.sR (ce27 h) (by decide) (by decide)
theorem ce29 {M : Mem} (h : Zc 0 M) : CE M (mm29 M) (mm29 mem0) := CE.sR (ce28 h) (by decide) (by decide)
theorem ce30 {M : Mem} (h : Zc 0 M) : CE M (mm30 M) (mm30 mem0) := CE.sI (ce29 h) (by decide)
theorem ce31 {M : Mem} (h : Zc 0 M) : CE M (mm31 M) (mm31 mem0) := CE.sR (ce30 h) (by decide) (by decide)
theorem ce32 {M : Mem} (h : Zc 0 M) : CE M (mm32 M) (mm32 mem0) := CE.sR (ce31 h) (by decide) (by decide)
theorem ce33 {M : Mem} (h : Zc 0 M) : CE M (mm33 M) (mm33 mem0) := CE.sR (ce32 h) (by decide) (by decide)
theorem ce34 {M : Mem} (h : Zc 0 M) : CE M (mm34 M) (mm34 mem0) := CE.sI (ce33 h) (by decide)
theorem ce35 {M : Mem} (h : Zc 0 M) : CE M (mm35 M) (mm35 mem0) := CE.sR (ce34 h) (by decide) (by decide)
theorem ce36 {M : Mem} (h : Zc 0 M) : CE M (mm36 M) (mm36 mem0) := CE.sR (ce35 h) (by decide) (by decide)
theorem ce37 {M : Mem} (h : Zc 0 M) : CE M (mm37 M) (mm37 mem0) := CE.sR (ce36 h) (by decide) (by decide)
theorem ce38 {M : Mem} (h : Zc 0 M) : CE M (mm38 M) (mm38 mem0) := CE.sR (ce37 h) (by decide) (by decide)
theorem ce39 {M : Mem} (h : Zc 0 M) : CE M (mm39 M) (mm39 mem0) := CE.sR (ce38 h) (by decide) (by decide)
theorem ce40 {M : Mem} (h : Zc 0 M) : CE M (mm40 M) (mm40 mem0) := CE.sR (ce39 h) (by decide) (by decide)
theorem ce41 {M : Mem} (h : Zc 0 M) : CE M (mm41 M) (mm41 mem0) := CE.sR (ce40 h) (by decide) (by decide)
theorem ce42 {M : Mem} (h : Zc 0 M) : CE M (mm42 M) (mm42 mem0) := CE.sR (ce41 h) (by decide) (by decide)
theorem ce43 {M : Mem} (h : Zc 0 M) : CE M (mm43 M) (mm43 mem0) := CE.sR (ce42 h) (by decide) (by decide)
theorem ce44 {M : Mem} (h : Zc 0 M) : CE M (mm44 M) (mm44 mem0) := CE.sI (ce43 h) (by decide)
theorem ce45 {M : Mem} (h : Zc 0 M) : CE M (mm45 M) (mm45 mem0) := CE.sR (ce44 h) (by decide) (by decide)
theorem ce46 {M : Mem} (h : Zc 0 M) : CE M (mm46 M) (mm46 mem0) := CE.sR (ce45 h) (by decide) (by decide)
theorem ce47 {M : Mem} (h : Zc 0 M) : CE M (mm47 M) (mm47 mem0) := CE.sR (ce46 h) (by decide) (by decide)
theorem ce48 {M : Mem} (h : Zc 0 M) : CE M (mm48 M) (mm48 mem0) := CE.sR (ce47 h) (by decide) (by decide)
theorem ce49 {M : Mem} (h : Zc 0 M) : CE M (mm49 M) (mm49 mem0) := CE.sR (ce48 h) (by decide) (by decide)
theorem ce50 {M : Mem} (h : Zc 0 M) : CE M (mm50 M) (mm50 mem0) := CE.sR (ce49 h) (by decide) (by decide)
theorem ce51 {M : Mem} (h : Zc 0 M) : CE M (mm51 M) (mm51 mem0) := CE.sI (ce50 h) (by decide)
theorem ce52 {M : Mem} (h : Zc 0 M) : CE M (mm52 M) (mm52 mem0) := CE.sR (ce51 h) (by decide) (by decide)
theorem ce53 {M : Mem} (h : Zc 0 M) : CE M (mm53 M) (mm53 mem0) := CE.sR (ce52 h) (by decide) (by decide)
theorem ce54 {M : Mem} (h : Zc 0 M) : CE M (mm54 M) (mm54 mem0) := CE.sR (ce53 h) (by decide) (by decide)
theorem ce55 {M : Mem} (h : Zc 0 M) : CE M (mm55 M) (mm55 mem0) := CE.sR (ce54 h) (by decide) (by decide)
theorem ce56 {M : Mem} (h : Zc 0 M) : CE M (mm56 M) (mm56 mem0) := CE.sR (ce55 h) (by decide) (by decide)
theorem ce57 {M : Mem} (h : Zc 0 M) : CE M (mm57 M) (mm57 mem0) := CE.sR (ce56 h) (by decide) (by decide)
theorem ce58 {M : Mem} (h : Zc 0 M) : CE M (mm58 M) (mm58 mem0) := CE.sI (ce57 h) (by decide)
theorem ce59 {M : Mem} (h : Zc 0 M) : CE M (mm59 M) (mm59 mem0) := CE.sR (ce58 h) (by decide) (by decide)
theorem ce60 {M : Mem} (h : Zc 0 M) : CE M (mm60 M) (mm60 mem0) := CE.sR (ce59 h) (by decide) (by decide)
theorem ce61 {M : Mem} (h : Zc 0 M) : CE M (mm61 M) (mm61 mem0) := CE.sR (ce60 h) (by decide) (by decide)
theorem ce62 {M : Mem} (h : Zc 0 M) : CE M (mm62 M) (mm62 mem0) := CE.sR (ce61 h) (by decide) (by decide)
theorem ce63 {M : Mem} (h : Zc 0 M) : CE M (mm63 M) (mm63 mem0) := CE.sR (ce62 h) (by decide) (by decide)
theorem ce64 {M : Mem} (h : Zc 0 M) : CE M (mm64 M) (mm64 mem0) := CE.sR (ce63 h) (by decide) (by decide)
theorem ce65 {M : Mem} (h : Zc 0 M) : CE M (mm65 M) (mm65 mem0) := CE.sI (ce64 h) (by decide)
theorem ce66 {M : Mem} (h : Zc 0 M) : CE M (mm66 M) (mm66 mem0) := CE.sR (ce65 h) (by decide) (by decide)
theorem ce67 {M : Mem} (h : Zc 0 M) : CE M (mm67 M) (mm67 mem0) := CE.sR (ce66 h) (by decide) (by decide)
theorem ce68 {M : Mem} (h : Zc 0 M) : CE M (mm68 M) (mm68 mem0) := CE.sR (ce67 h) (by decide) (by decide)
theorem ce69 {M : Mem} (h : Zc 0 M) : CE M (mm69 M) (mm69 mem0) := CE.sR (ce68 h) (by decide) (by decide)
theorem ce70 {M : Mem} (h : Zc 0 M) : CE M (mm70 M) (mm70 mem0) := CE.sR (ce69 h) (by decide) (by decide)
theorem ce71 {M : Mem} (h : Zc 0 M) : CE M (mm71 M) (mm71 mem0) := CE.sR (ce70 h) (by decide) (by decide)
theorem ce72 {M : Mem} (h : Zc 0 M) : CE M (mm72 M) (mm72 mem0) := CE.sI (ce71 h) (by decide)
theorem ce73 {M : Mem} (h : Zc 0 M) : CE M (mm73 M) (mm73 mem0) := CE.sR (ce72 h) (by decide) (by decide)
theorem ce74 {M : Mem} (h : Zc 0 M) : CE M (mm74 M) (mm74 mem0) := CE.sR (ce73 h) (by decide) (by decide)
theorem ce75 {M : Mem} (h : Zc 0 M) : CE M (mm75 M) (mm75 mem0) := CE.sR (ce74 h) (by decide) (by decide)
theorem ce76 {M : Mem} (h : Zc 0 M) : CE M (mm76 M) (mm76 mem0) := CE.sR (ce75 h) (by decide) (by decide)
theorem ce77 {M : Mem} (h : Zc 0 M) : CE M (mm77 M) (mm77 mem0) := CE.sR (ce76 h) (by decide) (by decide)
theorem ce78 {M : Mem} (h : Zc 0 M) : CE M (mm78 M) (mm78 mem0) := CE.sR (ce77 h) (by decide) (by decide)
theorem ce79 {M : Mem} (h : Zc 0 M) : CE M (mm79 M) (mm79 mem0) := CE.sI (ce78 h) (by decide)
theorem ce80 {M : Mem} (h : Zc 0 M) : CE M (mm80 M) (mm80 mem0) := CE.sR (ce79 h) (by decide) (by decide)
theorem ce81 {M : Mem} (h : Zc 0 M) : CE M (mm81 M) (mm81 mem0) := CE.sR (ce80 h) (by decide) (by decide)
theorem ce82 {M : Mem} (h : Zc 0 M) : CE M (mm82 M) (mm82 mem0) := CE.sR (ce81 h) (by decide) (by decide)
theorem ce83 {M : Mem} (h : Zc 0 M) : CE M (mm83 M) (mm83 mem0) := CE.sR (ce82 h) (by decide) (by decide)
theorem ce84 {M : Mem} (h : Zc 0 M) : CE M (mm84 M) (mm84 mem0) := CE.sR (ce83 h) (by decide) (by decide)
theorem ce85 {M : Mem} (h : Zc 0 M) : CE M (mm85 M) (mm85 mem0) := CE.sR (ce84 h) (by decide) (by decide)
theorem ce86 {M : Mem} (h : Zc 0 M) : CE M (mm86 M) (mm86 mem0) := CE.sI (ce85 h) (by decide)
theorem ce87 {M : Mem} (h : Zc 0 M) : CE M (mm87 M) (mm87 mem0) := CE.sR (ce86 h) (by decide) (by decide)
theorem ce88 {M : Mem} (h : Zc 0 M) : CE M (mm88 M) (mm88 mem0) := CE.sR (ce87 h) (by decide) (by decide)
theorem ce89 {M : Mem} (h : Zc 0 M) : CE M (mm89 M) (mm89 mem0) := CE.sR (ce88 h) (by decide) (by decide)
theorem ce90 {M : Mem} (h : Zc 0 M) : CE M (mm90 M) (mm90 mem0) := CE.sR (ce89 h) (by decide) (by decide)
theorem ce91 {M : Mem} (h : Zc 0 M) : CE M (mm91 M) (mm91 mem0) := CE.sR (ce90 h) (by decide) (by decide)
theorem ce92 {M : Mem} (h : Zc 0 M) : CE M (mm92 M) (mm92 mem0) := CE.sR (ce91 h) (by decide) (by decide)
theorem ce93 {M : Mem} (h : Zc 0 M) : CE M (mm93 M) (mm93 mem0) := CE.sI (ce92 h) (by decide)
theorem ce94 {M : Mem} (h : Zc 0 M) : CE M (mm94 M) (mm94 mem0) := CE.sR (ce93 h) (by decide) (by decide)
theorem ce95 {M : Mem} (h : Zc 0 M) : CE M (mm95 M) (mm95 mem0) := CE.sR (ce94 h) (by decide) (by decide)
theorem ce96 {M : Mem} (h : Zc 0 M) : CE M (mm96 M) (mm96 mem0) := CE.sR (ce95 h) (by decide) (by decide)
theorem ce97 {M : Mem} (h : Zc 0 M) : CE M (mm97 M) (mm97 mem0) := CE.sR (ce96 h) (by decide) (by decide)
theorem ce98 {M : Mem} (h : Zc 0 M) : CE M (mm98 M) (mm98 mem0) := CE.sR (ce97 h) (by decide) (by decide)
theorem ce99 {M : Mem} (h : Zc 0 M) : CE M (mm99 M) (mm99 mem0) := CE.sR (ce98 h) (by decide) (by decide)
theorem ce100 {M : Mem} (h : Zc 0 M) : CE M (mm100 M) (mm100 mem0) := CE.sI (ce99 h) (by decide)
theorem ce101 {M : Mem} (h : Zc 0 M) : CE M (mm101 M) (mm101 mem0) := CE.sR (ce100 h) (by decide) (by decide)
theorem ce102 {M : Mem} (h : Zc 0 M) : CE M (mm102 M) (mm102 mem0) := CE.sR (ce101 h) (by decide) (by decide)
theorem ce103 {M : Mem} (h : Zc 0 M) : CE M (mm103 M) (mm103 mem0) := CE.sR (ce102 h) (by decide) (by decide)
theorem ce104 {M : Mem} (h : Zc 0 M) : CE M (mm104 M) (mm104 mem0) := CE.sR (ce103 h) (by decide) (by decide)
theorem ce105 {M : Mem} (h : Zc 0 M) : CE M (mm105 M) (mm105 mem0) := CE.sR (ce104 h) (by decide) (by decide)
theorem ce106 {M : Mem} (h : Zc 0 M) : CE M (mm106 M) (mm106 mem0) := CE.sR (ce105 h) (by decide) (by decide)
theorem ce107 {M : Mem} (h : Zc 0 M) : CE M (mm107 M) (mm107 mem0) := CE.sR (ce106 h) (by decide) (by decide)
theorem ce108 {M : Mem} (h : Zc 0 M) : CE M (mm108 M) (mm108 mem0) := CE.sR (ce107 h) (by decide) (by decide)
theorem ce109 {M : Mem} (h : Zc 0 M) : CE M (mm109 M) (mm109 mem0) := CE.sR (ce108 h) (by decide) (by decide)
theorem ce110 {M : Mem} (h : Zc 0 M) : CE M (mm110 M) (mm110 mem0) := CE.sR (ce109 h) (by decide) (by decide)
theorem ce111 {M : Mem} (h : Zc 0 M) : CE M (mm111 M) (mm111 mem0) := CE.sR (ce110 h) (by decide) (by decide)
theorem ce112 {M : Mem} (h : Zc 0 M) : CE M (mm112 M) (mm112 mem0) := CE.sR (ce111 h) (by decide) (by decide)
theorem ce113 {M : Mem} (h : Zc 0 M) : CE M (mm113 M) (mm113 mem0) := CE.sI (ce112 h) (by decide)
theorem ce114 {M : Mem} (h : Zc 0 M) : CE M (mm114 M) (mm114 mem0) := CE.sI (ce113 h) (by decide)
theorem ce115 {M : Mem} (h : Zc 0 M) : CE M (mm115 M) (mm115 mem0) := CE.sR (ce114 h) (by decide) (by decide)
theorem ce116 {M : Mem} (h : Zc 0 M) : CE M (mm116 M) (mm116 mem0) := CE.sR (ce115 h) (by decide) (by decide)
theorem ce117 {M : Mem} (h : Zc 0 M) : CE M (mm117 M) (mm117 mem0) := CE.sR (ce116 h) (by decide) (by decide)
theorem ce118 {M : Mem} (h : Zc 0 M) : CE M (mm118 M) (mm118 mem0) := CE.sR (ce117 h) (by decide) (by decide)
theorem ce119 {M : Mem} (h : Zc 0 M) : CE M (mm119 M) (mm119 mem0) := CE.sR (ce118 h) (by decide) (by decide)
theorem ce120 {M : Mem} (h : Zc 0 M) : CE M (mm120 M) (mm120 mem0) := CE.sR (ce119 h) (by decide) (by decide)
theorem ce121 {M : Mem} (h : Zc 0 M) : CE M (mm121 M) (mm121 mem0) := CE.sR (ce120 h) (by decide) (by decide)
theorem ce122 {M : Mem} (h : Zc 0 M) : CE M (mm122 M) (mm122 mem0) := CE.sR (ce121 h) (by decide) (by decide)
theorem ce123 {M : Mem} (h : Zc 0 M) : CE M (mm123 M) (mm123 mem0) := CE.sR (ce122 h) (by decide) (by decide)
theorem ce124 {M : Mem} (h : Zc 0 M) : CE M (mm124 M) (mm124 mem0) := CE.sR (ce123 h) (by decide) (by decide)
theorem ce125 {M : Mem} (h : Zc 0 M) : CE M (mm125 M) (mm125 mem0) := CE.sR (ce124 h) (by decide) (by decide)
theorem ce126 {M : Mem} (h : Zc 0 M) : CE M (mm126 M) (mm126 mem0) := CE.sR (ce125 h) (by decide) (by decide)
theorem ce127 {M : Mem} (h : Zc 0 M) : CE M (mm127 M) (mm127 mem0) := CE.sR (ce126 h) (by decide) (by decide)
theorem ce128 {M : Mem} (h : Zc 0 M) : CE M (mm128 M) (mm128 mem0) := CE.sR (ce127 h) (by decide) (by decide)
theorem ce129 {M : Mem} (h : Zc 0 M) : CE M (mm129 M) (mm129 mem0) := CE.sR (ce128 h) (by decide) (by decide)
theorem ce130 {M : Mem} (h : Zc 0 M) : CE M (mm130 M) (mm130 mem0) := CE.sR (ce129 h) (by decide) (by decide)
theorem ceC {M : Mem} (h : Zc 0 M) : CE M (mmC M) (mmC mem0) := ce130 h
/-- what holds of the class as it is made -/
theorem mmC_R : ∀ o, o < 108 → ∀ k, k < 40 → (srT o k).isSome = true → gR (mmC mem0) o k = srT o k := by decide +kernel
theorem mmC_I : gI (mmC mem0) 3 0 = 0 ∧ gI (mmC mem0) 10 4 = 0 ∧ gI (mmC mem0) 35 0 = 0 ∧ gI (mmC mem0) 105 1 = 0 ∧ gI (mmC mem0) 1 1 = 0 := by decide +kernel
theorem mmC_rot : ∀ k, k < 7 → gR (mmC mem0) 36 k = some (38 + 6 * ((0 + k) % 7)) := by decide +kernel
theorem srT_in {o k j : Nat} (hj : srT o k = some j) : o < 108 ∧ k < 40 := by
  have ho : o < 108 := by
    refine Nat.lt_of_not_le (fun z => ?_)
    have el : srL.length ≤ 108 := by decide +kernel
    have e : srL.getD o [] = [] := by
      rw [List.getD_eq_getElem?_getD, List.getElem?_eq_none (by omega)]; rfl
    simp only [srT, e, List.getD_eq_getElem?_getD, List.getElem?_nil, Option.getD_none] at hj
    exact nomatch hj
  refine ⟨ho, Nat.lt_of_not_le (fun z => ?_)⟩
  have e : ∀ o, o < 108 → (srL.getD o []).length ≤ 40 := by decide +kernel
  have e1 := e o ho
  simp only [srT] at hj
  rw [List.getD_eq_getElem?_getD, List.getElem?_eq_none (by omega)] at hj
  exact nomatch hj
theorem mmC_rows : ∀ t, gI (mmC mem0) 33 t = 0 ∧ gI (mmC mem0) 34 t = 0 := fun t => by
  have h : ∀ o, o = 33 ∨ o = 34 → gI (mmC mem0) o t = 0 := fun o ho => by
    have n : ∀ {p : Nat}, p ≠ 33 → p ≠ 34 → ∀ {k j : Nat}, ¬ (o = p ∧ j = k) := fun h1 h2 => fun z => by omega
    simp only [mmC, mm130, mm129, mm128, mm127, mm126, mm125, mm124, mm123, mm122, mm121, mm120, mm119, mm118, mm117, mm116, mm115, mm114, mm113, mm112, mm111, mm110, mm109, mm108, mm107, mm106, mm105, mm104, mm103, mm102, mm101, mm100, mm99, mm98, mm97, mm96, mm95, mm94, mm93, mm92, mm91, mm90, mm89, mm88, mm87, mm86, mm85, mm84, mm83, mm82, mm81, mm80, mm79, mm78, mm77, mm76, mm75, mm74, mm73, mm72, mm71, mm70, mm69, mm68, mm67, mm66, mm65, mm64, mm63, mm62, mm61, mm60, mm59, mm58, mm57, mm56, mm55, mm54, mm53, mm52, mm51, mm50, mm49, mm48, mm47, mm46, mm45, mm44, mm43, mm42, mm41, mm40, mm39, mm38, mm37, mm36, mm35, mm34, mm33, mm32, mm31, mm30, mm29, mm28, mm27, mm26, mm25, mm24, mm23, mm22, mm21, mm20, mm19, mm18, mm17, mm16, mm15, mm14, mm13, mm12, mm11, mm10, mm9, mm8, mm7, mm6, mm5, mm4, mm3, mm2, mm1, gI_sI, gI_sR]
    repeat rw [if_neg (fun z => by omega)]
    rfl
  exact ⟨h 33 (.inl rfl), h 34 (.inr rfl)⟩
