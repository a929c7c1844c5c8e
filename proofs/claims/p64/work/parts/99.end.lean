/-! THE CLAIM OUT OF ONE WALK OF THE LAW'S BODY. Your part is whole_start (and what it stands on); all else here is the same for every law, but numbers. -/
def R_law : String := "DecisionChainLaw"
def lw_P (b : Addr) (xs : List Int32) (args : Array Value) (s : State) : Prop := args = #[.ref b] ∧ s.IntsAt b xs ∧ xs.length ≤ 260 ∧ (Jvm.Cond.and given_1 narrow_1).before args s = true
/-- what a walk over the start with the record d0 says of its end, said of the start itself -/
theorem lw_closed {s t : State} {o : Outcome} {d0 : Drawn} {L : List Loc} {k n : Nat} (hd0 : s.drawn.sameBut d0 lw_cs) (hv : ∃ v, o = .returned v) (hW : (s.setDrawn d0).WarmedH t.vm) (hs : (s.setDrawn d0).sameButNew ({ t with vm := s.vm } : State) L k n) : State.butDraws s t lw_cs (fun t1 => Framed s o t1 L k n) := by
  have h2 : t.drawn = d0 := congrArg State.drawn hs.1
  refine ⟨⟨hv, hW, State.sameButNew.setDrawn hs s.drawn⟩, ?_, by decide⟩
  rw [h2]
  exact hd0
def lw_Q (_ : Array Value) (s : State) (o : Outcome) (t : State) : Prop := o = .returned (some (.int 1)) ∧ State.butDraws s t lw_cs (fun t1 => Framed s o t1 [] 600086 7301442)
def lw_Z (below : List Frame) (a : Array Value) (s : State) : State → Prop := fun t => ∃ o, t.status = .running ∧ Ended t below o ∧ lw_Q a s o t
/-- the law's own end, with 1 on the stack, nothing written that was there before, its room as the claim has it; d0: the record of draws at this point (at the entry s.drawn: begin with 'refine W.base ?_' and 'have hd0 := Drawn.sameBut.refl s.drawn lw_cs') -/
theorem lw_ret {p : Program} {l : Launch} {e : Env} {s : State} {m : MethodId} {below : List Frame} {meth : Method} {c : Code} {b : Nat} {d0 : Drawn} (hd0 : s.drawn.sameBut d0 lw_cs) (hx : p.tables.exec = Jvm.exec) (hb : c.code = code) (hr : meth.sig.returnType = ret) (hlocks : meth.locks = false) {pc : Nat} {H : Heap} {ls : Array Slot} (hdg : decode code pc = .ok (.ireturn, 1)) : W p l e room_1 (s.setDrawn d0) m #[Value.ref b] below meth c H [] 600086 7301442 (lw_Z below #[Value.ref b] s) (F0 m pc ls [.int 1]) := by
  intro T hT X
  obtain ⟨fs, hret, hrun, hended, hW, hframe⟩ := X.leave (v := some (.int 1)) (hlocks := hlocks) (fun h => by rw [hr] at h; cases h)
  have hmeth' : T.vm.method? m = some meth := X.method'
  refine ⟨T.setFrames fs, ?_, .returned (some (.int 1)), hrun, hended, rfl, lw_closed hd0 ⟨_, rfl⟩ hW hframe⟩
  jvm_step X.here [X.here.top, hx, hb, hdg, hmeth', hr, ret, narrow_b1]
  (try refine ⟨rfl, ?_⟩); (try refine ⟨rfl, ?_⟩)
  first | (intro acts; rw [hret _ acts rfl rfl rfl]) | rw [hret _ _ rfl rfl rfl]
  exact Steps.refl _
/-- what holds at the law's entry: the machine, the code, the tables' words (any of lw_tbl by 'hts w (by decide +kernel)'), the script of L ints xs at the cell b, what the Statement gives of the start (any of its parts by flat_of_before) -/
def lw_At (p : Program) (s : State) (m : MethodId) (meth : Method) (c : Code) (b L : Nat) (xs : Nat → Int32) : Prop :=
  p.tables.exec = Jvm.exec ∧ c.code = code ∧ meth.sig.returnType = ret ∧ c.maxLocals = 6 ∧ s.vm.findClass R_law = some m.cls ∧ (∀ w ∈ lw_tbl, w.before #[Value.ref b] s = true) ∧ va_X b L xs s s.heap ∧ b < s.heap.size ∧ meth.locks = false ∧ (Jvm.Cond.and given_1 narrow_1).before #[Value.ref b] s = true
theorem ka_boolean : Gd (.arrayClass .boolean) := gd 795 (by decide +kernel) rfl
def TPL : List (String × Nat) := [("DecisionChain$Parser", 89), ("DecisionChain$Parser", 93), ("DecisionChain$Parser", 97), ("DecisionChain$Parser", 101), ("DecisionChain$Parser", 105), ("DecisionChain$Parser", 110), ("DecisionChain$Parser", 156), ("DecisionChain$Parser", 164), ("DecisionChain$Parser", 115), ("DecisionChain$Parser", 130), ("DecisionChainLaw$Chain", 9), ("DecisionChainLaw$Chain", 80), ("DecisionChainLaw$Chain", 85), ("DecisionChainLaw$Chain", 90), ("DecisionChainLaw$Chain", 105), ("DecisionChainLaw$Chain", 107), ("DecisionChainLaw$Chain", 109), ("DecisionChainLaw$Chain", 117), ("DecisionChainLaw$Chain", 122), ("DecisionChainLaw$Chain", 124), ("DecisionChainLaw$Chain", 103), ("DecisionChain", 114), ("DecisionChain", 124), ("DecisionChain", 379), ("DecisionChain", 381), ("DecisionChain", 383), ("DecisionChain", 385), ("DecisionChain", 391), ("DecisionChain", 283), ("DecisionChain", 387), ("DecisionChain", 323), ("DecisionChain", 329), ("DecisionChain", 336), ("DecisionChain", 345), ("DecisionChain", 360), ("DecisionChain", 389), ("DecisionChain", 374), ("java/util/Arrays", 337)]
def tmS (t : Nat) : Term := .string (TPL.getD t ("", 0)).1 (TPL.getD t ("", 0)).2
theorem tp_ex : ∀ t, t < 38 → Cond.exactly (tmS t) "java/lang/String" ∈ flatC (Jvm.Cond.and given_1 narrow_1) := by decide +kernel
abbrev FLC : List Cond := flatC (Jvm.Cond.and given_1 narrow_1)
theorem tp_word0 : ∀ i, i < 5 → (Cond.eq (.field (tmS (0 + i)) "java/lang/String" "coder" "B") (.int 0)) ∈ FLC ∧ (Cond.arrayOf (.field (tmS (0 + i)) "java/lang/String" "value" "[B") .byte) ∈ FLC ∧
    (Cond.eq (.length (.field (tmS (0 + i)) "java/lang/String" "value" "[B")) (.int (Int32.ofNat (WL.getD (0 + i) []).length))) ∈ FLC ∧
    ∀ j, j < (WL.getD (0 + i) []).length → (Cond.eq (.elem (.field (tmS (0 + i)) "java/lang/String" "value" "[B") (.int (Int32.ofNat j))) (.int (((WL.getD (0 + i) []).map nI).getD j 0))) ∈ FLC := by decide +kernel
theorem tp_word5 : ∀ i, i < 5 → (Cond.eq (.field (tmS (5 + i)) "java/lang/String" "coder" "B") (.int 0)) ∈ FLC ∧ (Cond.arrayOf (.field (tmS (5 + i)) "java/lang/String" "value" "[B") .byte) ∈ FLC ∧
    (Cond.eq (.length (.field (tmS (5 + i)) "java/lang/String" "value" "[B")) (.int (Int32.ofNat (WL.getD (5 + i) []).length))) ∈ FLC ∧
    ∀ j, j < (WL.getD (5 + i) []).length → (Cond.eq (.elem (.field (tmS (5 + i)) "java/lang/String" "value" "[B") (.int (Int32.ofNat j))) (.int (((WL.getD (5 + i) []).map nI).getD j 0))) ∈ FLC := by decide +kernel
theorem tp_word10 : ∀ i, i < 2 → (Cond.eq (.field (tmS (10 + i)) "java/lang/String" "coder" "B") (.int 0)) ∈ FLC ∧ (Cond.arrayOf (.field (tmS (10 + i)) "java/lang/String" "value" "[B") .byte) ∈ FLC ∧
    (Cond.eq (.length (.field (tmS (10 + i)) "java/lang/String" "value" "[B")) (.int (Int32.ofNat (WL.getD (10 + i) []).length))) ∈ FLC ∧
    ∀ j, j < (WL.getD (10 + i) []).length → (Cond.eq (.elem (.field (tmS (10 + i)) "java/lang/String" "value" "[B") (.int (Int32.ofNat j))) (.int (((WL.getD (10 + i) []).map nI).getD j 0))) ∈ FLC := by decide +kernel
theorem tp_word12 : ∀ i, i < 3 → (Cond.eq (.field (tmS (12 + i)) "java/lang/String" "coder" "B") (.int 0)) ∈ FLC ∧ (Cond.arrayOf (.field (tmS (12 + i)) "java/lang/String" "value" "[B") .byte) ∈ FLC ∧
    (Cond.eq (.length (.field (tmS (12 + i)) "java/lang/String" "value" "[B")) (.int (Int32.ofNat (WL.getD (12 + i) []).length))) ∈ FLC ∧
    ∀ j, j < (WL.getD (12 + i) []).length → (Cond.eq (.elem (.field (tmS (12 + i)) "java/lang/String" "value" "[B") (.int (Int32.ofNat j))) (.int (((WL.getD (12 + i) []).map nI).getD j 0))) ∈ FLC := by decide +kernel
theorem tp_word15 : ∀ i, i < 6 → (Cond.eq (.field (tmS (15 + i)) "java/lang/String" "coder" "B") (.int 0)) ∈ FLC ∧ (Cond.arrayOf (.field (tmS (15 + i)) "java/lang/String" "value" "[B") .byte) ∈ FLC ∧
    (Cond.eq (.length (.field (tmS (15 + i)) "java/lang/String" "value" "[B")) (.int (Int32.ofNat (WL.getD (15 + i) []).length))) ∈ FLC ∧
    ∀ j, j < (WL.getD (15 + i) []).length → (Cond.eq (.elem (.field (tmS (15 + i)) "java/lang/String" "value" "[B") (.int (Int32.ofNat j))) (.int (((WL.getD (15 + i) []).map nI).getD j 0))) ∈ FLC := by decide +kernel
theorem tp_word : ∀ t, t < 21 → (Cond.eq (.field (tmS t) "java/lang/String" "coder" "B") (.int 0)) ∈ FLC ∧ (Cond.arrayOf (.field (tmS t) "java/lang/String" "value" "[B") .byte) ∈ FLC ∧
    (Cond.eq (.length (.field (tmS t) "java/lang/String" "value" "[B")) (.int (Int32.ofNat (WL.getD t []).length))) ∈ FLC ∧
    ∀ j, j < (WL.getD t []).length → (Cond.eq (.elem (.field (tmS t) "java/lang/String" "value" "[B") (.int (Int32.ofNat j))) (.int (((WL.getD t []).map nI).getD j 0))) ∈ FLC := by
  intro t ht
  by_cases h5 : t < 5
  · have h := tp_word0 (t - 0) (by omega)
    rw [show 0 + (t - 0) = t by omega] at h
    exact h
  by_cases h10 : t < 10
  · have h := tp_word5 (t - 5) (by omega)
    rw [show 5 + (t - 5) = t by omega] at h
    exact h
  by_cases h12 : t < 12
  · have h := tp_word10 (t - 10) (by omega)
    rw [show 10 + (t - 10) = t by omega] at h
    exact h
  by_cases h15 : t < 15
  · have h := tp_word12 (t - 12) (by omega)
    rw [show 12 + (t - 12) = t by omega] at h
    exact h
  have h := tp_word15 (t - 15) (by omega)
  rw [show 15 + (t - 15) = t by omega] at h
  exact h
theorem tp_stl : ∀ q ∈ STL, q.2.2.2 < 38 ∧ Cond.stringRef q.1 q.2.1 q.2.2.1 ∈ lw_tbl ∧ (tmS q.2.2.2 = .string q.1 q.2.1 ∨ Cond.eq (tmS q.2.2.2) (.string q.1 q.2.1) ∈ flatC (Jvm.Cond.and given_1 narrow_1)) := by decide +kernel
theorem tp_nc : ∀ a, a < 3 → ∀ b, b < 3 → a ≠ b → Cond.not (.castable (xN a) (xN b)) ∈ flatC (Jvm.Cond.and given_1 narrow_1) := by decide +kernel
def tD1 : Term := .static "java/lang/Integer" "DigitOnes" "[B"
def tD2 : Term := .static "java/lang/Integer" "DigitTens" "[B"
theorem tp_d1_0 : ∀ i, i < 25 → Cond.eq (.elem tD1 (.int (Int32.ofNat (0 + i)))) (.int (nI (48 + (0 + i) % 10))) ∈ FLC := by decide +kernel
theorem tp_d1_25 : ∀ i, i < 25 → Cond.eq (.elem tD1 (.int (Int32.ofNat (25 + i)))) (.int (nI (48 + (25 + i) % 10))) ∈ FLC := by decide +kernel
theorem tp_d1_50 : ∀ i, i < 25 → Cond.eq (.elem tD1 (.int (Int32.ofNat (50 + i)))) (.int (nI (48 + (50 + i) % 10))) ∈ FLC := by decide +kernel
theorem tp_d1_75 : ∀ i, i < 25 → Cond.eq (.elem tD1 (.int (Int32.ofNat (75 + i)))) (.int (nI (48 + (75 + i) % 10))) ∈ FLC := by decide +kernel
theorem tp_d1 : Cond.arrayOf tD1 .byte ∈ FLC ∧ Cond.eq (.length tD1) (.int (Int32.ofNat 100)) ∈ FLC ∧ ∀ j, j < 100 → Cond.eq (.elem tD1 (.int (Int32.ofNat j))) (.int (nI (48 + j % 10))) ∈ FLC := by
  refine ⟨by decide +kernel, by decide +kernel, fun t ht => ?_⟩
  by_cases h0 : t < 25
  · have h := tp_d1_0 (t - 0) (by omega)
    rw [show 0 + (t - 0) = t by omega] at h
    exact h
  by_cases h25 : t < 50
  · have h := tp_d1_25 (t - 25) (by omega)
    rw [show 25 + (t - 25) = t by omega] at h
    exact h
  by_cases h50 : t < 75
  · have h := tp_d1_50 (t - 50) (by omega)
    rw [show 50 + (t - 50) = t by omega] at h
    exact h
  have h := tp_d1_75 (t - 75) (by omega)
  rw [show 75 + (t - 75) = t by omega] at h
  exact h
theorem tp_d2_0 : ∀ i, i < 25 → Cond.eq (.elem tD2 (.int (Int32.ofNat (0 + i)))) (.int (nI (48 + (0 + i) / 10))) ∈ FLC := by decide +kernel
theorem tp_d2_25 : ∀ i, i < 25 → Cond.eq (.elem tD2 (.int (Int32.ofNat (25 + i)))) (.int (nI (48 + (25 + i) / 10))) ∈ FLC := by decide +kernel
theorem tp_d2_50 : ∀ i, i < 25 → Cond.eq (.elem tD2 (.int (Int32.ofNat (50 + i)))) (.int (nI (48 + (50 + i) / 10))) ∈ FLC := by decide +kernel
theorem tp_d2_75 : ∀ i, i < 25 → Cond.eq (.elem tD2 (.int (Int32.ofNat (75 + i)))) (.int (nI (48 + (75 + i) / 10))) ∈ FLC := by decide +kernel
theorem tp_d2 : Cond.arrayOf tD2 .byte ∈ FLC ∧ Cond.eq (.length tD2) (.int (Int32.ofNat 100)) ∈ FLC ∧ ∀ j, j < 100 → Cond.eq (.elem tD2 (.int (Int32.ofNat j))) (.int (nI (48 + j / 10))) ∈ FLC := by
  refine ⟨by decide +kernel, by decide +kernel, fun t ht => ?_⟩
  by_cases h0 : t < 25
  · have h := tp_d2_0 (t - 0) (by omega)
    rw [show 0 + (t - 0) = t by omega] at h
    exact h
  by_cases h25 : t < 50
  · have h := tp_d2_25 (t - 25) (by omega)
    rw [show 25 + (t - 25) = t by omega] at h
    exact h
  by_cases h50 : t < 75
  · have h := tp_d2_50 (t - 50) (by omega)
    rw [show 50 + (t - 50) = t by omega] at h
    exact h
  have h := tp_d2_75 (t - 75) (by omega)
  rw [show 75 + (t - 75) = t by omega] at h
  exact h
theorem wl_inj : ∀ i, i < 21 → ∀ j, j < 21 → (WL.getD i []).length = (WL.getD j []).length → (∀ k, k < (WL.getD i []).length → ((WL.getD i []).map nI).getD k 0 = ((WL.getD j []).map nI).getD k 0) → i = j := by decide +kernel
theorem wl_map : ∀ t, t < 21 → (WL.map List.length).getD t 0 = (WL.getD t []).length ∧ (WL.map (fun l => l.map nI)).getD t [] = (WL.getD t []).map nI := by decide +kernel
/-- one text's data, out of what is given -/
theorem word_of {args : Array Value} {s : State} {A : Nat → Prop} (hfl : ∀ c ∈ flatC (Jvm.Cond.and given_1 narrow_1), c.before args s = true) (hA : ∀ a : Nat, a < s.heap.size → ¬ A a) {t a : Nat} (ht : t < 21) (ha : (tmS t).eval args s none [] s = some (.ref a)) : ∃ v : Nat, va_O "java/lang/String" a A s s.heap ∧ va_OF "java/lang/String" "coder" "B" (.int 0) a A s s.heap ∧ va_OF "java/lang/String" "value" "[B" (.ref v) a A s s.heap ∧ va_T .byte v (WL.getD t []).length (fun j => .int (((WL.getD t []).map nI).getD j 0)) A s s.heap := by
  obtain ⟨w1, w2, w3, w4⟩ := tp_word t ht
  have hl : (WL.getD t []).length < 1000 := (wl_len t ht).2
  obtain ⟨adK, adV, h, h2⟩ := vk_Sof (args := args) (s := s) (N := 1) (tm := fun _ => tmS t) (len := [(WL.getD t []).length]) (byt := [(WL.getD t []).map nI]) (A := A)
    (fun i hi => by rw [show i = 0 by omega]; exact Nat.lt_trans hl (by decide)) (fun i hi => hfl _ (tp_ex t (by omega))) (fun i hi => hfl _ w1) (fun i hi => hfl _ w2)
    (fun i hi => by rw [show i = 0 by omega]; exact hfl _ w3) (fun i hi j hj => by rw [show i = 0 by omega] at hj ⊢; exact hfl _ (w4 j hj)) (fun i j hi hj hij => absurd (show i = j by omega) hij) hA
  have e : adK 0 = a := by
    have := (h2 0 (by decide)).symm.trans ha
    cases this
    rfl
  have h0 := h.1 0 (by decide)
  rw [e] at h0
  exact ⟨adV 0, h0⟩
theorem of_same {o n d : String} {v v1 : Value} {t : Nat} {A : Nat → Prop} {U : State} {H : Heap} (h1 : va_OF o n d v t A U H) (h2 : va_OF o n d v1 t A U H) : v = v1 := by
  obtain ⟨cf, k, i, f, cell, q1, q2, q3, q4, q5, q6⟩ := h1
  obtain ⟨cf', k', i', f', cell', r1, r2, r3, r4, r5, r6⟩ := h2
  cases q1.symm.trans r1
  cases q3.symm.trans r3
  exact Option.some.inj (q5.symm.trans r5)
/-- the array class of a word, at the start -/
theorem arr_at {args : Array Value} {s : State} {ty : FieldType} (h : (Cond.arrayClass ty).before args s = true) (hp : match ty with | .object _ => False | _ => True) : ∃ cA : ClassId, ArrOfT s cA ty ∧ va_RA s cA ty := by
  obtain ⟨cA, kA, comp, h1, h2, h3⟩ := Cond.arrayClass_spec (args := args) (first := s) (o := none) (s := s) (idx := []) h
  refine ⟨cA, fun n z => ⟨fun k h => (by cases h), kA, h2, comp, h3⟩, ?_⟩
  cases ty <;> first | exact hp.elim | exact h1
theorem arr_at5 {args : Array Value} {s : State} {C : String} (h : (Cond.arrayOver (.object C)).before args s = true) : ∃ cA : ClassId, ArrOfT s cA (.object C) ∧ va_RA s cA (.object C) := by
  obtain ⟨comp, cA, kA, h1, h2, h3, h4, h5⟩ := Cond.arrayOver_spec (args := args) (first := s) (o := none) (s := s) (idx := []) h
  exact ⟨cA, fun n z => ⟨fun k h => (by cases h), kA, h3, comp, h4⟩, kA, comp, h3, h4, h1, h5⟩
theorem arr_specA {args : Array Value} {s : State} {t : FieldType} (h : (Cond.arrayOver (.array t)).before args s = true) : ∃ comp c k, s.vm.findClass (FieldType.array t).toString = some comp ∧ s.vm.classes[c]? = some k ∧ k.kind = .array comp (.array t) ∧ s.vm.findClass ("[" ++ (FieldType.array t).toString) = some c := by
  simp only [Cond.before, Cond.holds, Cond.value, beq_iff_eq] at h
  cases hc : s.vm.findClass (FieldType.array t).toString with
  | none => simp [hc] at h
  | some a =>
    simp only [hc, Option.bind_some, Option.bind_eq_some_iff, Option.map_eq_some_iff] at h
    obtain ⟨c, hi, k, hk, hb⟩ := h
    obtain ⟨hlt, hp, -⟩ := Array.findIdx?_eq_some_iff_getElem.mp hi
    rw [(Array.getElem?_eq_some_iff.mp hk).2] at hp
    cases hkind : k.kind with
    | array component ty =>
      rw [hkind] at hb hp
      simp at hb hp
      exact ⟨a, c, k, rfl, hk, by rw [hkind, hp, hb.1], hb.2⟩
    | _ => rw [hkind] at hb; simp at hb
theorem arr_atA {args : Array Value} {s : State} {t : FieldType} (h : (Cond.arrayOver (.array t)).before args s = true) : ∃ cA : ClassId, ArrOfT s cA (.array t) ∧ va_RA s cA (.array t) := by
  obtain ⟨comp, cA, kA, h1, h3, h4, h5⟩ := arr_specA h
  exact ⟨cA, fun n z => ⟨fun k h => (by cases h), kA, h3, comp, h4⟩, h5⟩
theorem arr_kd {args : Array Value} {s : State} {t : FieldType} (h : (Cond.arrayOver (.array t)).before args s = true) {c0 cA : ClassId} (hc0 : s.vm.findClass (FieldType.array t).toString = some c0) (hcA : s.vm.findClass ("[" ++ (FieldType.array t).toString) = some cA) : ∃ k, s.vm.classes[cA]? = some k ∧ k.kind = .array c0 (.array t) := by
  obtain ⟨comp, c, kA, h1, h3, h4, h5⟩ := arr_specA h
  cases h1.symm.trans hc0
  cases h5.symm.trans hcA
  exact ⟨kA, h3, h4⟩
def LTY : List FieldType := [.int, .long, .byte, .boolean, .int, .object "DecisionChain$Settings", .array .int, .array (.array .int), .array .boolean]
theorem whole_start0 {p : Program} {e : Env} {s : State} {m : MethodId} {below : List Frame} {meth : Method} {c : Code} (hB : ∀ (L : Nat) (xs : Nat → Int32), L ≤ 260 → ∃ Z rM, f_law Z L xs = some rM) (l : Launch) (hflags : l.flags = flags0) {b L : Nat} {xs : Nat → Int32} (hL : L ≤ 260) (C0 : lw_At p s m meth c b L xs) : W p l e room_1 s m #[Value.ref b] below meth c s.heap [] 0 0 (lw_Z below #[Value.ref b] s) (entryFrame m ([Value.ref b] : List Value).toArray 6) := by
  obtain ⟨hx, hb, hr, hml, hown, hts, hX, hbl, hlk, hgv⟩ := C0
  have hfl := flat_of_before _ hgv
  have hA : ∀ a : Nat, a < s.heap.size → ¬ (fun q => s.heap.size ≤ q) a := fun a h => Nat.not_le.mpr h
  have hxs : ∀ w ∈ exS, w.before #[Value.ref b] s = true := by
    intro w hw
    simp only [exS, List.mem_cons, List.not_mem_nil, or_false] at hw
    rcases hw with rfl | rfl | rfl | rfl
    · exact sel_priv (C := RJ4) (y := yJ5_newCapacity_0f7a4) (x0 := yJ5_isLatin1_aae02) (y0 := yJ5_isLatin1_aae02) ⟨by decide, by decide⟩ (hts _ (List.mem_of_getElem? (i := 575) (by decide +kernel))) rfl (hts _ (List.mem_of_getElem? (i := 543) (by decide +kernel))) (hts _ (List.mem_of_getElem? (i := 544) (by decide +kernel)))
    · exact sel_priv (C := RJ4) (y := yJ5_ensureCapacityInternal_d00df) (x0 := yJ5_isLatin1_aae02) (y0 := yJ5_isLatin1_aae02) ⟨by decide, by decide⟩ (hts _ (List.mem_of_getElem? (i := 575) (by decide +kernel))) rfl (hts _ (List.mem_of_getElem? (i := 539) (by decide +kernel))) (hts _ (List.mem_of_getElem? (i := 540) (by decide +kernel)))
    · exact sel_priv (C := RJ4) (y := yJ5_putStringAt_47b60) (x0 := yJ5_isLatin1_aae02) (y0 := yJ5_isLatin1_aae02) ⟨by decide, by decide⟩ (hts _ (List.mem_of_getElem? (i := 575) (by decide +kernel))) rfl (hts _ (List.mem_of_getElem? (i := 605) (by decide +kernel))) (hts _ (List.mem_of_getElem? (i := 606) (by decide +kernel)))
    · exact sel_priv (C := RJ4) (y := yJ5_inflateIfNeededFor_a7421) (x0 := yJ5_isLatin1_aae02) (y0 := yJ5_isLatin1_aae02) ⟨by decide, by decide⟩ (hts _ (List.mem_of_getElem? (i := 575) (by decide +kernel))) rfl (hts _ (List.mem_of_getElem? (i := 609) (by decide +kernel))) (hts _ (List.mem_of_getElem? (i := 610) (by decide +kernel)))
  have htx0 : ∀ w ∈ exS ++ lw_tbl, w.before #[Value.ref b] s = true := fun w hw => (List.mem_append.mp hw).elim (hxs w) (hts w)
  -- classes
  have hcl : ∀ i : Nat, ∃ q : ClassId × (Nat → Nat), ∀ r : vw_C, vwCl[i]? = some r → u_Kn s r.1 r.2.1 r.2.2 q.1 q.2 := by
    intro i
    match i with
    | 0 =>
      obtain ⟨cC, iS, h⟩ := u_known (C := RX0) (T := TX0) (N := 8) htx0 (fun w hw => (uw0 w hw).1) (htx0 _ ki_0.1)
      exact ⟨(cC, iS), fun r hr => by cases hr; exact h⟩
    | 1 =>
      obtain ⟨cC, iS, h⟩ := u_known (C := RX1) (T := TX1) (N := 7) htx0 (fun w hw => (uw1 w hw).1) (htx0 _ ki_1.1)
      exact ⟨(cC, iS), fun r hr => by cases hr; exact h⟩
    | 2 =>
      obtain ⟨cC, iS, h⟩ := u_known (C := RX2) (T := TX2) (N := 7) htx0 (fun w hw => (uw2 w hw).1) (htx0 _ ki_2.1)
      exact ⟨(cC, iS), fun r hr => by cases hr; exact h⟩
    | 3 =>
      obtain ⟨cC, iS, h⟩ := u_known (C := RX3) (T := TX3) (N := 4) htx0 (fun w hw => (uw3 w hw).1) (htx0 _ ki_3.1)
      exact ⟨(cC, iS), fun r hr => by cases hr; exact h⟩
    | 4 =>
      obtain ⟨cC, iS, h⟩ := u_known (C := RX4) (T := TX4) (N := 7) htx0 (fun w hw => (uw4 w hw).1) (htx0 _ ki_4.1)
      exact ⟨(cC, iS), fun r hr => by cases hr; exact h⟩
    | 5 =>
      obtain ⟨cC, iS, h⟩ := u_known (C := RX5) (T := TX5) (N := 11) htx0 (fun w hw => (uw5 w hw).1) (htx0 _ ki_5.1)
      exact ⟨(cC, iS), fun r hr => by cases hr; exact h⟩
    | 6 =>
      obtain ⟨cC, iS, h⟩ := u_known (C := RX6) (T := TX6) (N := 2) htx0 (fun w hw => (uw6 w hw).1) (htx0 _ ki_6.1)
      exact ⟨(cC, iS), fun r hr => by cases hr; exact h⟩
    | 7 =>
      obtain ⟨cC, iS, h⟩ := u_known (C := RX7) (T := TX7) (N := 9) htx0 (fun w hw => (uw7 w hw).1) (htx0 _ ki_7.1)
      exact ⟨(cC, iS), fun r hr => by cases hr; exact h⟩
    | 8 =>
      obtain ⟨cC, iS, h⟩ := u_known (C := RX8) (T := TX8) (N := 4) htx0 (fun w hw => (uw8 w hw).1) (htx0 _ ki_8.1)
      exact ⟨(cC, iS), fun r hr => by cases hr; exact h⟩
    | 9 =>
      obtain ⟨cC, iS, h⟩ := u_known (C := RX9) (T := TX9) (N := 3) htx0 (fun w hw => (uw9 w hw).1) (htx0 _ ki_9.1)
      exact ⟨(cC, iS), fun r hr => by cases hr; exact h⟩
    | 10 =>
      obtain ⟨cC, iS, h⟩ := u_known (C := RX10) (T := TX10) (N := 4) htx0 (fun w hw => (uw10 w hw).1) (htx0 _ ki_10.1)
      exact ⟨(cC, iS), fun r hr => by cases hr; exact h⟩
    | 11 =>
      obtain ⟨cC, iS, h⟩ := u_known (C := RX11) (T := TX11) (N := 12) htx0 (fun w hw => (uw11 w hw).1) (htx0 _ ki_11.1)
      exact ⟨(cC, iS), fun r hr => by cases hr; exact h⟩
    | 12 =>
      obtain ⟨cC, iS, h⟩ := u_known (C := RX12) (T := TX12) (N := 17) htx0 (fun w hw => (uw12 w hw).1) (htx0 _ ki_12.1)
      exact ⟨(cC, iS), fun r hr => by cases hr; exact h⟩
    | 13 =>
      obtain ⟨cC, iS, h⟩ := u_known (C := RX13) (T := TX13) (N := 2) htx0 (fun w hw => (uw13 w hw).1) (htx0 _ ki_13.1)
      exact ⟨(cC, iS), fun r hr => by cases hr; exact h⟩
    | 14 =>
      obtain ⟨cC, iS, h⟩ := u_known (C := RJ0) (T := TJ0) (N := 4) htx0 (fun w hw => (uw14 w hw).1) (htx0 _ ki_14.1)
      exact ⟨(cC, iS), fun r hr => by cases hr; exact h⟩
    | 15 =>
      obtain ⟨cC, iS, h⟩ := u_known (C := RJ4) (T := TJ4) (N := 4) htx0 (fun w hw => (uw15 w hw).1) (htx0 _ ki_15.1)
      exact ⟨(cC, iS), fun r hr => by cases hr; exact h⟩
    | i + 16 => exact ⟨(0, fun _ => 0), fun r hr => nomatch (show (none : Option vw_C) = some r from hr)⟩
  obtain ⟨D0, hD0⟩ := Classical.axiomOfChoice hcl
  -- arrays
  have har : ∀ k : Nat, ∃ cA : ClassId, ∀ ty : FieldType, LTY[k]? = some ty → ArrOfT s cA ty ∧ va_RA s cA ty := by
    intro k
    match k with
    | 0 =>
      obtain ⟨cA, h⟩ := arr_at (htx0 _ ka_int.1) trivial
      exact ⟨cA, fun ty e => by cases e; exact h⟩
    | 1 =>
      obtain ⟨cA, h⟩ := arr_at (htx0 _ ka_long.1) trivial
      exact ⟨cA, fun ty e => by cases e; exact h⟩
    | 2 =>
      obtain ⟨cA, h⟩ := arr_at (htx0 _ ka_byte.1) trivial
      exact ⟨cA, fun ty e => by cases e; exact h⟩
    | 3 =>
      obtain ⟨cA, h⟩ := arr_at (htx0 _ ka_boolean.1) trivial
      exact ⟨cA, fun ty e => by cases e; exact h⟩
    | 4 =>
      obtain ⟨cA, h⟩ := arr_at (htx0 _ ka_int.1) trivial
      exact ⟨cA, fun ty e => by cases e; exact h⟩
    | 5 =>
      obtain ⟨cA, h⟩ := arr_at5 (C := "DecisionChain$Settings") (hts _ (List.mem_of_getElem? (i := 300) (by decide +kernel)))
      exact ⟨cA, fun ty e => by cases e; exact h⟩
    | 6 =>
      obtain ⟨cA, h⟩ := arr_atA (t := .int) (hts _ (List.mem_of_getElem? (i := 650) (by decide +kernel)))
      exact ⟨cA, fun ty e => by cases e; exact h⟩
    | 7 =>
      obtain ⟨cA, h⟩ := arr_atA (t := .array .int) (hts _ (List.mem_of_getElem? (i := 652) (by decide +kernel)))
      exact ⟨cA, fun ty e => by cases e; exact h⟩
    | 8 =>
      obtain ⟨cA, h⟩ := arr_atA (t := .boolean) (hts _ (List.mem_of_getElem? (i := 654) (by decide +kernel)))
      exact ⟨cA, fun ty e => by cases e; exact h⟩
    | k + 9 => exact ⟨0, fun ty h => nomatch (show (none : Option FieldType) = some ty from h)⟩
  obtain ⟨dA, hdA⟩ := Classical.axiomOfChoice har
  -- texts
  have htx : ∀ t : Nat, ∃ a : Nat, t < 38 → (tmS t).eval #[Value.ref b] s none [] s = some (.ref a) := by
    intro t
    by_cases ht : t < 38
    · obtain ⟨a, c, cA, kA, q1, -⟩ := Cond.exactly_spec (args := #[Value.ref b]) (first := s) (o := none) (s := s) (idx := []) (t := tmS t) (cls := "java/lang/String") (hfl _ (tp_ex t ht))
      exact ⟨a, fun _ => q1⟩
    · exact ⟨0, fun h => absurd h ht⟩
  obtain ⟨st0, hst⟩ := Classical.axiomOfChoice htx
  have hwd : ∀ t : Nat, ∃ v : Nat, t < 21 → va_O "java/lang/String" (st0 t) (fun q => s.heap.size ≤ q) s s.heap ∧ va_OF "java/lang/String" "coder" "B" (.int 0) (st0 t) (fun q => s.heap.size ≤ q) s s.heap ∧ va_OF "java/lang/String" "value" "[B" (.ref v) (st0 t) (fun q => s.heap.size ≤ q) s s.heap ∧ va_T .byte v (WL.getD t []).length (fun j => .int (((WL.getD t []).map nI).getD j 0)) (fun q => s.heap.size ≤ q) s s.heap := by
    intro t
    by_cases ht : t < 21
    · obtain ⟨v, hv⟩ := word_of hfl hA ht (hst t (by omega))
      exact ⟨v, fun _ => hv⟩
    · exact ⟨0, fun h => absurd h ht⟩
  obtain ⟨sv, hsv⟩ := Classical.axiomOfChoice hwd
  obtain ⟨t1, hd1, hd2⟩ := va_Tof (args := #[Value.ref b]) (s := s) (tm := tD1) (ty := .byte) (N := 100) (f := fun j => .int (nI (48 + j % 10))) (A := fun q => s.heap.size ≤ q) (by decide) (hfl _ tp_d1.1) (va_eqt (hfl _ tp_d1.2.1)) (fun j hj => va_eqt (hfl _ (tp_d1.2.2 j hj))) hA
  obtain ⟨t2, hd3, hd4⟩ := va_Tof (args := #[Value.ref b]) (s := s) (tm := tD2) (ty := .byte) (N := 100) (f := fun j => .int (nI (48 + j / 10))) (A := fun q => s.heap.size ≤ q) (by decide) (hfl _ tp_d2.1) (va_eqt (hfl _ tp_d2.2.1)) (fun j hj => va_eqt (hfl _ (tp_d2.2.2 j hj))) hA
  obtain ⟨st, hs1, hs2, hs3⟩ : ∃ st : Nat → Nat, (∀ t, t < 50 → st t = st0 t) ∧ st 50 = t1 ∧ st 51 = t2 := ⟨fun t => if t = 50 then t1 else if t = 51 then t2 else st0 t, fun t ht => by
    show (if t = 50 then t1 else if t = 51 then t2 else st0 t) = st0 t
    rw [if_neg (by omega), if_neg (by omega)], rfl, rfl⟩
  have hKs : va_K (fun i => (D0 i).1, fun i => (D0 i).2) vwCl (tysA dA) s := by
    refine ⟨fun i r hr => hD0 i r hr, fun k q hq => ?_⟩
    match k with
    | 0 => cases hq; exact hdA 0 _ rfl
    | 1 => cases hq; exact hdA 1 _ rfl
    | 2 => cases hq; exact hdA 2 _ rfl
    | 3 => cases hq; exact hdA 3 _ rfl
    | 4 => cases hq; exact hdA 5 _ rfl
    | 5 => cases hq; exact hdA 6 _ rfl
    | 6 => cases hq; exact hdA 7 _ rfl
    | 7 => cases hq; exact hdA 8 _ rfl
    | k + 8 => exact nomatch (show (none : Option (ClassId × FieldType)) = some q from hq)
  have htr : l.stackTraces = false := by
    unfold Launch.stackTraces
    rw [hflags]
    decide
  obtain ⟨Γ, hΓ⟩ : ∃ Γ : WC, Γ = (s, (fun i => (D0 i).1, fun i => (D0 i).2), dA, KT, (fun _ => b), ([], SHF), l, st, sv) := ⟨_, rfl⟩
  have hHG : HG Γ := by
    rw [hΓ]
    exact ⟨fun w hw a U hU => hw.at htx0 hU, hKs, htr, vx_Zqof (hts _ (List.mem_of_getElem? (i := 878) (by decide +kernel))) (hts _ (List.mem_of_getElem? (i := 73) (by decide +kernel))) (hfl _ (by decide +kernel)) hA, vx_Zqof (hts _ (List.mem_of_getElem? (i := 880) (by decide +kernel))) (hts _ (List.mem_of_getElem? (i := 73) (by decide +kernel))) (hfl _ (by decide +kernel)) hA, fun _ _ _ _ => trivial⟩
  have hHS : HS Γ := by
    rw [hΓ]
    refine ⟨fun q hq => ?_, ⟨fun i hi => ?_, fun i j hi hj eij => ?_⟩, va_Zof (hts _ (List.mem_of_getElem? (i := 510) (by decide +kernel))) (hts _ (List.mem_of_getElem? (i := 51) (by decide +kernel))) (va_eqt (hfl _ (by decide +kernel))) hA, va_Zqof (hts _ (List.mem_of_getElem? (i := 591) (by decide +kernel))) (hts _ (List.mem_of_getElem? (i := 57) (by decide +kernel))) (hfl _ (by decide +kernel)) hA, ⟨?_, ?_⟩, ?_, ?_⟩
    · obtain ⟨h1, h2, h3⟩ := tp_stl q hq
      refine vk_R.of (hts _ h2) ?_
      have ht := hst _ h1
      show _ = some (Value.ref (st q.2.2.2))
      rw [hs1 _ (by omega)]
      rcases h3 with h3 | h3
      · rw [h3] at ht
        exact ht
      · exact va_eqR (hfl _ h3) ht
    · rw [(wl_map i hi).1, (wl_map i hi).2]
      have h := hsv i hi
      rw [← hs1 i (by omega)] at h
      exact h
    · obtain ⟨-, -, a1, a2⟩ := hsv i hi
      obtain ⟨-, -, b1, b2⟩ := hsv j hj
      have eij' : st i = st j := eij
      rw [hs1 i (by omega), hs1 j (by omega)] at eij'
      rw [eij'] at a1
      have ev : sv i = sv j := by
        have hz := of_same a1 b1
        exact Value.ref.inj hz
      rw [ev] at a2
      obtain ⟨cell, c1, c2, c3, c4, c5, c6, c7⟩ := a2
      obtain ⟨cell', d1, d2, d3, d4, d5, d6, d7⟩ := b2
      cases c1.symm.trans d1
      have hlen : (WL.getD i []).length = (WL.getD j []).length := by
        have := c5.symm.trans d5
        exact (nI_eq (Nat.lt_trans (wl_len i hi).2 (by decide)) (Nat.lt_trans (wl_len j hj).2 (by decide))).mp this
      refine wl_inj i hi j hj hlen (fun k hk => ?_)
      have := (c6 k hk).symm.trans (d6 k (by rw [← hlen]; exact hk))
      simp only [Option.some.injEq, Value.int.injEq] at this
      exact this
    · show va_Z "java/lang/Integer" "DigitOnes" "[B" (.ref (st 50)) _ s s.heap
      rw [hs2]
      exact va_Zof (hts _ (List.mem_of_getElem? (i := 674) (by decide +kernel))) (hts _ (List.mem_of_getElem? (i := 60) (by decide +kernel))) hd1 hA
    · show va_T .byte (st 50) 100 _ _ s s.heap
      rw [hs2]
      exact hd2
    · show va_Z "java/lang/Integer" "DigitTens" "[B" (.ref (st 51)) _ s s.heap
      rw [hs3]
      exact va_Zof (hts _ (List.mem_of_getElem? (i := 676) (by decide +kernel))) (hts _ (List.mem_of_getElem? (i := 60) (by decide +kernel))) hd3 hA
    · show va_T .byte (st 51) 100 _ _ s s.heap
      rw [hs3]
      exact hd4
  have hNC : NC Γ := by
    rw [hΓ]
    exact fun a b ha hb hab => va_Nc.of (hfl _ (tp_nc a ha b hb hab))
  have hov : va_AO "DecisionChain$Settings" (wU Γ) := by
    rw [hΓ]
    exact va_AO.of (hts _ (List.mem_of_getElem? (i := 300) (by decide +kernel)))
  have hQ : HQ Γ := by
    rw [hΓ]
    have f0 : s.vm.findClass "[I" = some (dA 0) := (hdA 0 _ rfl).2
    have f3 : s.vm.findClass "[Z" = some (dA 3) := (hdA 3 _ rfl).2
    have f6 : s.vm.findClass "[[I" = some (dA 6) := (hdA 6 _ rfl).2
    have f7 : s.vm.findClass "[[[I" = some (dA 7) := (hdA 7 _ rfl).2
    have f8 : s.vm.findClass "[[Z" = some (dA 8) := (hdA 8 _ rfl).2
    obtain ⟨-, kI, kI1, compI, kI2⟩ := (hdA 0 _ rfl).1 0 (fun _ => .null)
    obtain ⟨-, kZ, kZ1, compZ, kZ2⟩ := (hdA 3 _ rfl).1 0 (fun _ => .null)
    exact ⟨⟨arr_kd (t := .int) (hts _ (List.mem_of_getElem? (i := 650) (by decide +kernel))) f0 f6, f6⟩, ⟨arr_kd (t := .array .int) (hts _ (List.mem_of_getElem? (i := 652) (by decide +kernel))) f6 f7, f7⟩, ⟨arr_kd (t := .boolean) (hts _ (List.mem_of_getElem? (i := 654) (by decide +kernel))) f3 f8, f8⟩, ⟨kI, compI, kI1, kI2⟩, kZ, compZ, kZ1, kZ2⟩
  have hHX : HX0 Γ b L xs := by
    rw [hΓ]
    exact ⟨hX, hbl⟩
  have hd0 := Drawn.sameBut.refl s.drawn lw_cs
  obtain ⟨Z, rM, hZ⟩ := hB L xs hL
  have hS0 : va_S (fun q => s.heap.size ≤ q) s.heap s.heap [] := va_S.rf
  have hWs : s.WarmedH s.vm := State.WarmedH.refl s
  have C : CX Γ (p, e, room_1, s, m, #[Value.ref b], below, meth, c, lw_Z below #[Value.ref b] s) cL_law 6 RL (some .boolean) room_1 := by
    rw [hΓ]
    rw [hΓ] at hHG
    exact ⟨hx, hb, hml, hown, fun w hw => hw.at htx0 hWs, hWs, hlk, hr, rfl, hKs, hS0, hHG⟩
  have hgo := c_law (Γ := Γ) ⟨hHG, hHS⟩ hQ hNC hov hHX C (fun Γ1 M cs sl pc Lx e1 e2 e3 h1 h2 hd H locs ls a1 a2 a3 a4 a5 => by
    rw [e3]
    rw [e1] at a4
    rw [hΓ] at a4 ⊢
    refine W.widen (by omega) (by omega) ?_
    refine va_forget (fun q hq => a4.2.2 q hq) ?_
    exact W.base (lw_ret hd0 hx hb hr hlk hd)) hZ
  rw [hΓ] at hgo
  have hl := lv_entry ([.ref b]) (n := 6) (Nat.le_of_ble_eq_true rfl)
  rw [lg_entry_eq]
  have hP0 : va_P (fun i => (D0 i).1, fun i => (D0 i).2) vwCl [] s.heap := fun k q h => nomatch h
  have hD00 : va_D (fun q => s.heap.size ≤ q) [] := ⟨(fun i j p q h => nomatch h), (fun k q h => nomatch h)⟩
  exact hgo s.heap [] _ trivial hP0 hD00 hS0 (by rw [hml]; exact hl)
