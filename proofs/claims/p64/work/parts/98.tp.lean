/-! THE CLAIM OUT OF ONE WALK OF THE LAW'S BODY. Your part is whole_start (and what it stands on); all else here is the same for every law, but numbers. -/
def R_law : String := "DecisionChainLaw"
def lw_P (b : Addr) (xs : List Int32) (args : Array Value) (s : State) : Prop := args = #[.ref b] ∧ s.IntsAt b xs ∧ xs.length ≤ 260 ∧ (Jvm.Cond.and given_1 narrow_1).before args s = true
/-- what a walk over the start with the record d0 says of its end, said of the start itself -/
theorem lw_closed {s t : State} {o : Outcome} {d0 : Drawn} {L : List Loc} {k n : Nat} (hd0 : s.drawn.sameBut d0 lw_cs) (hv : ∃ v, o = .returned v) (hW : (s.setDrawn d0).WarmedH t.vm) (hs : (s.setDrawn d0).sameButNew ({ t with vm := s.vm } : State) L k n) : State.butDraws s t lw_cs (fun t1 => Framed s o t1 L k n) := by
  have h2 : t.drawn = d0 := congrArg State.drawn hs.1
  refine ⟨⟨hv, hW, State.sameButNew.setDrawn hs s.drawn⟩, ?_, by decide⟩
  rw [h2]
  exact hd0
def lw_Q (_ : Array Value) (s : State) (o : Outcome) (t : State) : Prop := o = .returned (some (.int 1)) ∧ State.butDraws s t lw_cs (fun t1 => Framed s o t1 [] 600086 7301442)
def lw_Z (below : List Frame) (a : Array Value) (s : State) : State → Prop := fun t => ∃ o, t.status = .running ∧ Ended t below o ∧ lw_Q a s o t
/-- the law's own end, with 1 on the stack, nothing written that was there before, its room as the claim has it; d0: the record of draws at this point (at the entry s.drawn: begin with 'refine W.base ?_' and 'have hd0 := Drawn.sameBut.refl s.drawn lw_cs') -/
theorem lw_ret {p : Program} {l : Launch} {e : Env} {s : State} {m : MethodId} {below : List Frame} {meth : Method} {c : Code} {b : Nat} {d0 : Drawn} (hd0 : s.drawn.sameBut d0 lw_cs) (hx : p.tables.exec = Jvm.exec) (hb : c.code = code) (hr : meth.sig.returnType = ret) (hlocks : meth.locks = false) {pc : Nat} {H : Heap} {ls : Array Slot} (hdg : decode code pc = .ok (.ireturn, 1)) : W p l e room_1 (s.setDrawn d0) m #[Value.ref b] below meth c H [] 600086 7301442 (lw_Z below #[Value.ref b] s) (F0 m pc ls [.int 1]) := by
  intro T hT X
  obtain ⟨fs, hret, hrun, hended, hW, hframe⟩ := X.leave (v := some (.int 1)) (hlocks := hlocks) (fun h => by rw [hr] at h; cases h)
  have hmeth' : T.vm.method? m = some meth := X.method'
  refine ⟨T.setFrames fs, ?_, .returned (some (.int 1)), hrun, hended, rfl, lw_closed hd0 ⟨_, rfl⟩ hW hframe⟩
  jvm_step X.here [X.here.top, hx, hb, hdg, hmeth', hr, ret, narrow_b1]
  (try refine ⟨rfl, ?_⟩); (try refine ⟨rfl, ?_⟩)
  first | (intro acts; rw [hret _ acts rfl rfl rfl]) | rw [hret _ _ rfl rfl rfl]
  exact Steps.refl _
/-- what holds at the law's entry: the machine, the code, the tables' words (any of lw_tbl by 'hts w (by decide +kernel)'), the script of L ints xs at the cell b, what the Statement gives of the start (any of its parts by flat_of_before) -/
def lw_At (p : Program) (s : State) (m : MethodId) (meth : Method) (c : Code) (b L : Nat) (xs : Nat → Int32) : Prop :=
  p.tables.exec = Jvm.exec ∧ c.code = code ∧ meth.sig.returnType = ret ∧ c.maxLocals = 6 ∧ s.vm.findClass R_law = some m.cls ∧ (∀ w ∈ lw_tbl, w.before #[Value.ref b] s = true) ∧ va_X b L xs s s.heap ∧ b < s.heap.size ∧ meth.locks = false ∧ (Jvm.Cond.and given_1 narrow_1).before #[Value.ref b] s = true
theorem ka_boolean : Gd (.arrayClass .boolean) := gd 795 (by decide +kernel) rfl
def TPL : List (String × Nat) := [("DecisionChain$Parser", 89), ("DecisionChain$Parser", 93), ("DecisionChain$Parser", 97), ("DecisionChain$Parser", 101), ("DecisionChain$Parser", 105), ("DecisionChain$Parser", 110), ("DecisionChain$Parser", 156), ("DecisionChain$Parser", 164), ("DecisionChain$Parser", 115), ("DecisionChain$Parser", 130), ("DecisionChainLaw$Chain", 9), ("DecisionChainLaw$Chain", 80), ("DecisionChainLaw$Chain", 85), ("DecisionChainLaw$Chain", 90), ("DecisionChainLaw$Chain", 105), ("DecisionChainLaw$Chain", 107), ("DecisionChainLaw$Chain", 109), ("DecisionChainLaw$Chain", 117), ("DecisionChainLaw$Chain", 122), ("DecisionChainLaw$Chain", 124), ("DecisionChainLaw$Chain", 103), ("DecisionChain", 114), ("DecisionChain", 124), ("DecisionChain", 379), ("DecisionChain", 381), ("DecisionChain", 383), ("DecisionChain", 385), ("DecisionChain", 391), ("DecisionChain", 283), ("DecisionChain", 387), ("DecisionChain", 323), ("DecisionChain", 329), ("DecisionChain", 336), ("DecisionChain", 345), ("DecisionChain", 360), ("DecisionChain", 389), ("DecisionChain", 374), ("java/util/Arrays", 337)]
def tmS (t : Nat) : Term := .string (TPL.getD t ("", 0)).1 (TPL.getD t ("", 0)).2
theorem tp_ex : ∀ t, t < 38 → Cond.exactly (tmS t) "java/lang/String" ∈ flatC (Jvm.Cond.and given_1 narrow_1) := by decide +kernel
abbrev FLC : List Cond := flatC (Jvm.Cond.and given_1 narrow_1)
theorem tp_word0 : ∀ i, i < 5 → (Cond.eq (.field (tmS (0 + i)) "java/lang/String" "coder" "B") (.int 0)) ∈ FLC ∧ (Cond.arrayOf (.field (tmS (0 + i)) "java/lang/String" "value" "[B") .byte) ∈ FLC ∧
    (Cond.eq (.length (.field (tmS (0 + i)) "java/lang/String" "value" "[B")) (.int (Int32.ofNat (WL.getD (0 + i) []).length))) ∈ FLC ∧
    ∀ j, j < (WL.getD (0 + i) []).length → (Cond.eq (.elem (.field (tmS (0 + i)) "java/lang/String" "value" "[B") (.int (Int32.ofNat j))) (.int (((WL.getD (0 + i) []).map nI).getD j 0))) ∈ FLC := by decide +kernel
theorem tp_word5 : ∀ i, i < 5 → (Cond.eq (.field (tmS (5 + i)) "java/lang/String" "coder" "B") (.int 0)) ∈ FLC ∧ (Cond.arrayOf (.field (tmS (5 + i)) "java/lang/String" "value" "[B") .byte) ∈ FLC ∧
    (Cond.eq (.length (.field (tmS (5 + i)) "java/lang/String" "value" "[B")) (.int (Int32.ofNat (WL.getD (5 + i) []).length))) ∈ FLC ∧
    ∀ j, j < (WL.getD (5 + i) []).length → (Cond.eq (.elem (.field (tmS (5 + i)) "java/lang/String" "value" "[B") (.int (Int32.ofNat j))) (.int (((WL.getD (5 + i) []).map nI).getD j 0))) ∈ FLC := by decide +kernel
theorem tp_word10 : ∀ i, i < 2 → (Cond.eq (.field (tmS (10 + i)) "java/lang/String" "coder" "B") (.int 0)) ∈ FLC ∧ (Cond.arrayOf (.field (tmS (10 + i)) "java/lang/String" "value" "[B") .byte) ∈ FLC ∧
    (Cond.eq (.length (.field (tmS (10 + i)) "java/lang/String" "value" "[B")) (.int (Int32.ofNat (WL.getD (10 + i) []).length))) ∈ FLC ∧
    ∀ j, j < (WL.getD (10 + i) []).length → (Cond.eq (.elem (.field (tmS (10 + i)) "java/lang/String" "value" "[B") (.int (Int32.ofNat j))) (.int (((WL.getD (10 + i) []).map nI).getD j 0))) ∈ FLC := by decide +kernel
theorem tp_word12 : ∀ i, i < 3 → (Cond.eq (.field (tmS (12 + i)) "java/lang/String" "coder" "B") (.int 0)) ∈ FLC ∧ (Cond.arrayOf (.field (tmS (12 + i)) "java/lang/String" "value" "[B") .byte) ∈ FLC ∧
    (Cond.eq (.length (.field (tmS (12 + i)) "java/lang/String" "value" "[B")) (.int (Int32.ofNat (WL.getD (12 + i) []).length))) ∈ FLC ∧
    ∀ j, j < (WL.getD (12 + i) []).length → (Cond.eq (.elem (.field (tmS (12 + i)) "java/lang/String" "value" "[B") (.int (Int32.ofNat j))) (.int (((WL.getD (12 + i) []).map nI).getD j 0))) ∈ FLC := by decide +kernel
theorem tp_word15 : ∀ i, i < 6 → (Cond.eq (.field (tmS (15 + i)) "java/lang/String" "coder" "B") (.int 0)) ∈ FLC ∧ (Cond.arrayOf (.field (tmS (15 + i)) "java/lang/String" "value" "[B") .byte) ∈ FLC ∧
    (Cond.eq (.length (.field (tmS (15 + i)) "java/lang/String" "value" "[B")) (.int (Int32.ofNat (WL.getD (15 + i) []).length))) ∈ FLC ∧
    ∀ j, j < (WL.getD (15 + i) []).length → (Cond.eq (.elem (.field (tmS (15 + i)) "java/lang/String" "value" "[B") (.int (Int32.ofNat j))) (.int (((WL.getD (15 + i) []).map nI).getD j 0))) ∈ FLC := by decide +kernel
theorem tp_word : ∀ t, t < 21 → (Cond.eq (.field (tmS t) "java/lang/String" "coder" "B") (.int 0)) ∈ FLC ∧ (Cond.arrayOf (.field (tmS t) "java/lang/String" "value" "[B") .byte) ∈ FLC ∧
    (Cond.eq (.length (.field (tmS t) "java/lang/String" "value" "[B")) (.int (Int32.ofNat (WL.getD t []).length))) ∈ FLC ∧
    ∀ j, j < (WL.getD t []).length → (Cond.eq (.elem (.field (tmS t) "java/lang/String" "value" "[B") (.int (Int32.ofNat j))) (.int (((WL.getD t []).map nI).getD j 0))) ∈ FLC := by
  intro t ht
  by_cases h5 : t < 5
  · have h := tp_word0 (t - 0) (by omega)
    rw [show 0 + (t - 0) = t by omega] at h
    exact h
  by_cases h10 : t < 10
  · have h := tp_word5 (t - 5) (by omega)
    rw [show 5 + (t - 5) = t by omega] at h
    exact h
  by_cases h12 : t < 12
  · have h := tp_word10 (t - 10) (by omega)
    rw [show 10 + (t - 10) = t by omega] at h
    exact h
  by_cases h15 : t < 15
  · have h := tp_word12 (t - 12) (by omega)
    rw [show 12 + (t - 12) = t by omega] at h
    exact h
  have h := tp_word15 (t - 15) (by omega)
  rw [show 15 + (t - 15) = t by omega] at h
  exact h
theorem tp_stl : ∀ q ∈ STL, q.2.2.2 < 38 ∧ Cond.stringRef q.1 q.2.1 q.2.2.1 ∈ lw_tbl ∧ (tmS q.2.2.2 = .string q.1 q.2.1 ∨ Cond.eq (tmS q.2.2.2) (.string q.1 q.2.1) ∈ flatC (Jvm.Cond.and given_1 narrow_1)) := by decide +kernel
theorem tp_nc : ∀ a, a < 3 → ∀ b, b < 3 → a ≠ b → Cond.not (.castable (xN a) (xN b)) ∈ flatC (Jvm.Cond.and given_1 narrow_1) := by decide +kernel
def tD1 : Term := .static "java/lang/Integer" "DigitOnes" "[B"
def tD2 : Term := .static "java/lang/Integer" "DigitTens" "[B"
theorem tp_d1_0 : ∀ i, i < 25 → Cond.eq (.elem tD1 (.int (Int32.ofNat (0 + i)))) (.int (nI (48 + (0 + i) % 10))) ∈ FLC := by decide +kernel
theorem tp_d1_25 : ∀ i, i < 25 → Cond.eq (.elem tD1 (.int (Int32.ofNat (25 + i)))) (.int (nI (48 + (25 + i) % 10))) ∈ FLC := by decide +kernel
theorem tp_d1_50 : ∀ i, i < 25 → Cond.eq (.elem tD1 (.int (Int32.ofNat (50 + i)))) (.int (nI (48 + (50 + i) % 10))) ∈ FLC := by decide +kernel
theorem tp_d1_75 : ∀ i, i < 25 → Cond.eq (.elem tD1 (.int (Int32.ofNat (75 + i)))) (.int (nI (48 + (75 + i) % 10))) ∈ FLC := by decide +kernel
theorem tp_d1 : Cond.arrayOf tD1 .byte ∈ FLC ∧ Cond.eq (.length tD1) (.int (Int32.ofNat 100)) ∈ FLC ∧ ∀ j, j < 100 → Cond.eq (.elem tD1 (.int (Int32.ofNat j))) (.int (nI (48 + j % 10))) ∈ FLC := by
  refine ⟨by decide +kernel, by decide +kernel, fun t ht => ?_⟩
  by_cases h0 : t < 25
  · have h := tp_d1_0 (t - 0) (by omega)
    rw [show 0 + (t - 0) = t by omega] at h
    exact h
  by_cases h25 : t < 50
  · have h := tp_d1_25 (t - 25) (by omega)
    rw [show 25 + (t - 25) = t by omega] at h
    exact h
  by_cases h50 : t < 75
  · have h := tp_d1_50 (t - 50) (by omega)
    rw [show 50 + (t - 50) = t by omega] at h
    exact h
  have h := tp_d1_75 (t - 75) (by omega)
  rw [show 75 + (t - 75) = t by omega] at h
  exact h
theorem tp_d2_0 : ∀ i, i < 25 → Cond.eq (.elem tD2 (.int (Int32.ofNat (0 + i)))) (.int (nI (48 + (0 + i) / 10))) ∈ FLC := by decide +kernel
theorem tp_d2_25 : ∀ i, i < 25 → Cond.eq (.elem tD2 (.int (Int32.ofNat (25 + i)))) (.int (nI (48 + (25 + i) / 10))) ∈ FLC := by decide +kernel
theorem tp_d2_50 : ∀ i, i < 25 → Cond.eq (.elem tD2 (.int (Int32.ofNat (50 + i)))) (.int (nI (48 + (50 + i) / 10))) ∈ FLC := by decide +kernel
theorem tp_d2_75 : ∀ i, i < 25 → Cond.eq (.elem tD2 (.int (Int32.ofNat (75 + i)))) (.int (nI (48 + (75 + i) / 10))) ∈ FLC := by decide +kernel
theorem tp_d2 : Cond.arrayOf tD2 .byte ∈ FLC ∧ Cond.eq (.length tD2) (.int (Int32.ofNat 100)) ∈ FLC ∧ ∀ j, j < 100 → Cond.eq (.elem tD2 (.int (Int32.ofNat j))) (.int (nI (48 + j / 10))) ∈ FLC := by
  refine ⟨by decide +kernel, by decide +kernel, fun t ht => ?_⟩
  by_cases h0 : t < 25
  · have h := tp_d2_0 (t - 0) (by omega)
    rw [show 0 + (t - 0) = t by omega] at h
    exact h
  by_cases h25 : t < 50
  · have h := tp_d2_25 (t - 25) (by omega)
    rw [show 25 + (t - 25) = t by omega] at h
    exact h
  by_cases h50 : t < 75
  · have h := tp_d2_50 (t - 50) (by omega)
    rw [show 50 + (t - 50) = t by omega] at h
    exact h
  have h := tp_d2_75 (t - 75) (by omega)
  rw [show 75 + (t - 75) = t by omega] at h
  exact h
theorem wl_inj : ∀ i, i < 21 → ∀ j, j < 21 → (WL.getD i []).length = (WL.getD j []).length → (∀ k, k < (WL.getD i []).length → ((WL.getD i []).map nI).getD k 0 = ((WL.getD j []).map nI).getD k 0) → i = j := by decide +kernel
theorem wl_map : ∀ t, t < 21 → (WL.map List.length).getD t 0 = (WL.getD t []).length ∧ (WL.map (fun l => l.map nI)).getD t [] = (WL.getD t []).map nI := by decide +kernel
/-- one text's data, out of what is given -/
theorem word_of {args : Array Value} {s : State} {A : Nat → Prop} (hfl : ∀ c ∈ flatC (Jvm.Cond.and given_1 narrow_1), c.before args s = true) (hA : ∀ a : Nat, a < s.heap.size → ¬ A a) {t a : Nat} (ht : t < 21) (ha : (tmS t).eval args s none [] s = some (.ref a)) : ∃ v : Nat, va_O "java/lang/String" a A s s.heap ∧ va_OF "java/lang/String" "coder" "B" (.int 0) a A s s.heap ∧ va_OF "java/lang/String" "value" "[B" (.ref v) a A s s.heap ∧ va_T .byte v (WL.getD t []).length (fun j => .int (((WL.getD t []).map nI).getD j 0)) A s s.heap := by
  obtain ⟨w1, w2, w3, w4⟩ := tp_word t ht
  have hl : (WL.getD t []).length < 1000 := (wl_len t ht).2
  obtain ⟨adK, adV, h, h2⟩ := vk_Sof (args := args) (s := s) (N := 1) (tm := fun _ => tmS t) (len := [(WL.getD t []).length]) (byt := [(WL.getD t []).map nI]) (A := A)
    (fun i hi => by rw [show i = 0 by omega]; exact Nat.lt_trans hl (by decide)) (fun i hi => hfl _ (tp_ex t (by omega))) (fun i hi => hfl _ w1) (fun i hi => hfl _ w2)
    (fun i hi => by rw [show i = 0 by omega]; exact hfl _ w3) (fun i hi j hj => by rw [show i = 0 by omega] at hj ⊢; exact hfl _ (w4 j hj)) (fun i j hi hj hij => absurd (show i = j by omega) hij) hA
  have e : adK 0 = a := by
    have := (h2 0 (by decide)).symm.trans ha
    cases this
    rfl
  have h0 := h.1 0 (by decide)
  rw [e] at h0
  exact ⟨adV 0, h0⟩
theorem of_same {o n d : String} {v v1 : Value} {t : Nat} {A : Nat → Prop} {U : State} {H : Heap} (h1 : va_OF o n d v t A U H) (h2 : va_OF o n d v1 t A U H) : v = v1 := by
  obtain ⟨cf, k, i, f, cell, q1, q2, q3, q4, q5, q6⟩ := h1
  obtain ⟨cf', k', i', f', cell', r1, r2, r3, r4, r5, r6⟩ := h2
  cases q1.symm.trans r1
  cases q3.symm.trans r3
  exact Option.some.inj (q5.symm.trans r5)
/-- the array class of a word, at the start -/
theorem arr_at {args : Array Value} {s : State} {ty : FieldType} (h : (Cond.arrayClass ty).before args s = true) (hp : match ty with | .object _ => False | _ => True) : ∃ cA : ClassId, ArrOfT s cA ty ∧ va_RA s cA ty := by
  obtain ⟨cA, kA, comp, h1, h2, h3⟩ := Cond.arrayClass_spec (args := args) (first := s) (o := none) (s := s) (idx := []) h
  refine ⟨cA, fun n z => ⟨fun k h => (by cases h), kA, h2, comp, h3⟩, ?_⟩
  cases ty <;> first | exact hp.elim | exact h1
theorem arr_at5 {args : Array Value} {s : State} {C : String} (h : (Cond.arrayOver (.object C)).before args s = true) : ∃ cA : ClassId, ArrOfT s cA (.object C) ∧ va_RA s cA (.object C) := by
  obtain ⟨comp, cA, kA, h1, h2, h3, h4, h5⟩ := Cond.arrayOver_spec (args := args) (first := s) (o := none) (s := s) (idx := []) h
  exact ⟨cA, fun n z => ⟨fun k h => (by cases h), kA, h3, comp, h4⟩, kA, comp, h3, h4, h1, h5⟩
theorem arr_specA {args : Array Value} {s : State} {t : FieldType} (h : (Cond.arrayOver (.array t)).before args s = true) : ∃ comp c k, s.vm.findClass (FieldType.array t).toString = some comp ∧ s.vm.classes[c]? = some k ∧ k.kind = .array comp (.array t) ∧ s.vm.findClass ("[" ++ (FieldType.array t).toString) = some c := by
  simp only [Cond.before, Cond.holds, Cond.value, beq_iff_eq] at h
  cases hc : s.vm.findClass (FieldType.array t).toString with
  | none => simp [hc] at h
  | some a =>
    simp only [hc, Option.bind_some, Option.bind_eq_some_iff, Option.map_eq_some_iff] at h
    obtain ⟨c, hi, k, hk, hb⟩ := h
    obtain ⟨hlt, hp, -⟩ := Array.findIdx?_eq_some_iff_getElem.mp hi
    rw [(Array.getElem?_eq_some_iff.mp hk).2] at hp
    cases hkind : k.kind with
    | array component ty =>
      rw [hkind] at hb hp
      simp at hb hp
      exact ⟨a, c, k, rfl, hk, by rw [hkind, hp, hb.1], hb.2⟩
    | _ => rw [hkind] at hb; simp at hb
theorem arr_atA {args : Array Value} {s : State} {t : FieldType} (h : (Cond.arrayOver (.array t)).before args s = true) : ∃ cA : ClassId, ArrOfT s cA (.array t) ∧ va_RA s cA (.array t) := by
  obtain ⟨comp, cA, kA, h1, h3, h4, h5⟩ := arr_specA h
  exact ⟨cA, fun n z => ⟨fun k h => (by cases h), kA, h3, comp, h4⟩, h5⟩
theorem arr_kd {args : Array Value} {s : State} {t : FieldType} (h : (Cond.arrayOver (.array t)).before args s = true) {c0 cA : ClassId} (hc0 : s.vm.findClass (FieldType.array t).toString = some c0) (hcA : s.vm.findClass ("[" ++ (FieldType.array t).toString) = some cA) : ∃ k, s.vm.classes[cA]? = some k ∧ k.kind = .array c0 (.array t) := by
  obtain ⟨comp, c, kA, h1, h3, h4, h5⟩ := arr_specA h
  cases h1.symm.trans hc0
  cases h5.symm.trans hcA
  exact ⟨kA, h3, h4⟩
