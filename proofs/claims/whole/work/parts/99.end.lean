/-! THE CLAIM OUT OF ONE WALK OF THE LAW'S BODY. Your part is whole_start (and what it stands on); all else here is the same for every law, but numbers. -/
def R_law : String := "DecisionChainLaw"
def lw_P (b : Addr) (xs : List Int32) (args : Array Value) (s : State) : Prop := args = #[.ref b] ∧ s.IntsAt b xs ∧ xs.length ≤ 3072 ∧ (Jvm.Cond.and given_1 narrow_1).before args s = true
/-- what a walk over the start with the record d0 says of its end, said of the start itself -/
theorem lw_closed {s t : State} {o : Outcome} {d0 : Drawn} {L : List Loc} {k n : Nat} (hd0 : s.drawn.sameBut d0 lw_cs) (hv : ∃ v, o = .returned v) (hW : (s.setDrawn d0).WarmedH t.vm) (hs : (s.setDrawn d0).sameButNew ({ t with vm := s.vm } : State) L k n) : State.butDraws s t lw_cs (fun t1 => Framed s o t1 L k n) := by
  have h2 : t.drawn = d0 := congrArg State.drawn hs.1
  refine ⟨⟨hv, hW, State.sameButNew.setDrawn hs s.drawn⟩, ?_, by decide⟩
  rw [h2]
  exact hd0
def lw_Q (_ : Array Value) (s : State) (o : Outcome) (t : State) : Prop := o = .returned (some (.int 1)) ∧ State.butDraws s t lw_cs (fun t1 => Framed s o t1 [] 601024 7293034)
def lw_Z (below : List Frame) (a : Array Value) (s : State) : State → Prop := fun t => ∃ o, t.status = .running ∧ Ended t below o ∧ lw_Q a s o t
/-- the law's own end, with 1 on the stack, nothing written that was there before, its room as the claim has it; d0: the record of draws at this point (at the entry s.drawn: begin with 'refine W.base ?_' and 'have hd0 := Drawn.sameBut.refl s.drawn lw_cs') -/
theorem lw_ret {p : Program} {l : Launch} {e : Env} {s : State} {m : MethodId} {below : List Frame} {meth : Method} {c : Code} {b : Nat} {d0 : Drawn} (hd0 : s.drawn.sameBut d0 lw_cs) (hx : p.tables.exec = Jvm.exec) (hb : c.code = code) (hr : meth.sig.returnType = ret) (hlocks : meth.locks = false) {pc : Nat} {H : Heap} {ls : Array Slot} (hdg : decode code pc = .ok (.ireturn, 1)) : W p l e room_1 (s.setDrawn d0) m #[Value.ref b] below meth c H [] 601024 7293034 (lw_Z below #[Value.ref b] s) (F0 m pc ls [.int 1]) := by
  intro T hT X
  obtain ⟨fs, hret, hrun, hended, hW, hframe⟩ := X.leave (v := some (.int 1)) (hlocks := hlocks) (fun h => by rw [hr] at h; cases h)
  have hmeth' : T.vm.method? m = some meth := X.method'
  refine ⟨T.setFrames fs, ?_, .returned (some (.int 1)), hrun, hended, rfl, lw_closed hd0 ⟨_, rfl⟩ hW hframe⟩
  jvm_step X.here [X.here.top, hx, hb, hdg, hmeth', hr, ret, narrow_b1]
  (try refine ⟨rfl, ?_⟩); (try refine ⟨rfl, ?_⟩)
  first | (intro acts; rw [hret _ acts rfl rfl rfl]) | rw [hret _ _ rfl rfl rfl]
  exact Steps.refl _
/-- what holds at the law's entry: the machine, the code, the tables' words (any of lw_tbl by 'hts w (by decide +kernel)'), the script of L ints xs at the cell b, what the Statement gives of the start (any of its parts by flat_of_before) -/
def lw_At (p : Program) (s : State) (m : MethodId) (meth : Method) (c : Code) (b L : Nat) (xs : Nat → Int32) : Prop :=
  p.tables.exec = Jvm.exec ∧ c.code = code ∧ meth.sig.returnType = ret ∧ c.maxLocals = 9 ∧ s.vm.findClass R_law = some m.cls ∧ (∀ w ∈ lw_tbl, w.before #[Value.ref b] s = true) ∧ va_X b L xs s s.heap ∧ b < s.heap.size ∧ meth.locks = false ∧ (Jvm.Cond.and given_1 narrow_1).before #[Value.ref b] s = true
def TPL : List (String × Nat) := [("DecisionChain$Parser", 89), ("DecisionChain$Parser", 93), ("DecisionChain$Parser", 97), ("DecisionChain$Parser", 101), ("DecisionChain$Parser", 105), ("DecisionChain$Parser", 110), ("DecisionChain$Parser", 156), ("DecisionChain$Parser", 164), ("DecisionChain$Parser", 115), ("DecisionChain$Parser", 130), ("DecisionChain", 114), ("DecisionChain", 124), ("DecisionChain", 379), ("DecisionChain", 381), ("DecisionChain", 383), ("DecisionChain", 385), ("DecisionChain", 391), ("DecisionChain", 283), ("DecisionChain", 387), ("DecisionChain", 323), ("DecisionChain", 329), ("DecisionChain", 336), ("DecisionChain", 345), ("DecisionChain", 360), ("DecisionChain", 389), ("DecisionChain", 374)]
def tmS (t : Nat) : Term := .string (TPL.getD t ("", 0)).1 (TPL.getD t ("", 0)).2
theorem tp_ex : ∀ t, t < 26 → Cond.exactly (tmS t) "java/lang/String" ∈ flatC (Jvm.Cond.and given_1 narrow_1) := by decide +kernel
theorem tp_word : ∀ t, t < 10 → (Cond.eq (.field (tmS t) "java/lang/String" "coder" "B") (.int 0)) ∈ flatC (Jvm.Cond.and given_1 narrow_1) ∧ (Cond.arrayOf (.field (tmS t) "java/lang/String" "value" "[B") .byte) ∈ flatC (Jvm.Cond.and given_1 narrow_1) ∧
    (Cond.eq (.length (.field (tmS t) "java/lang/String" "value" "[B")) (.int (Int32.ofNat (WL.getD t []).length))) ∈ flatC (Jvm.Cond.and given_1 narrow_1) ∧
    ∀ j, j < (WL.getD t []).length → (Cond.eq (.elem (.field (tmS t) "java/lang/String" "value" "[B") (.int (Int32.ofNat j))) (.int (((WL.getD t []).map nI).getD j 0))) ∈ flatC (Jvm.Cond.and given_1 narrow_1) := by decide +kernel
theorem tp_stl : ∀ q ∈ STL, q.2.2.2 < 26 ∧ Cond.stringRef q.1 q.2.1 q.2.2.1 ∈ lw_tbl ∧ (tmS q.2.2.2 = .string q.1 q.2.1 ∨ Cond.eq (tmS q.2.2.2) (.string q.1 q.2.1) ∈ flatC (Jvm.Cond.and given_1 narrow_1)) := by decide +kernel
theorem tp_nc : ∀ a, a < 3 → ∀ b, b < 3 → a ≠ b → Cond.not (.castable (xN a) (xN b)) ∈ flatC (Jvm.Cond.and given_1 narrow_1) := by decide +kernel
theorem wl_inj : ∀ i, i < 10 → ∀ j, j < 10 → (WL.getD i []).length = (WL.getD j []).length → (∀ k, k < (WL.getD i []).length → ((WL.getD i []).map nI).getD k 0 = ((WL.getD j []).map nI).getD k 0) → i = j := by decide +kernel
theorem wl_map : ∀ t, t < 10 → (WL.map List.length).getD t 0 = (WL.getD t []).length ∧ (WL.map (fun l => l.map nI)).getD t [] = (WL.getD t []).map nI := by decide +kernel
/-- one text's data, out of what is given -/
theorem word_of {args : Array Value} {s : State} {A : Nat → Prop} (hfl : ∀ c ∈ flatC (Jvm.Cond.and given_1 narrow_1), c.before args s = true) (hA : ∀ a : Nat, a < s.heap.size → ¬ A a) {t a : Nat} (ht : t < 10) (ha : (tmS t).eval args s none [] s = some (.ref a)) : ∃ v : Nat, va_O "java/lang/String" a A s s.heap ∧ va_OF "java/lang/String" "coder" "B" (.int 0) a A s s.heap ∧ va_OF "java/lang/String" "value" "[B" (.ref v) a A s s.heap ∧ va_T .byte v (WL.getD t []).length (fun j => .int (((WL.getD t []).map nI).getD j 0)) A s s.heap := by
  obtain ⟨w1, w2, w3, w4⟩ := tp_word t ht
  have hl : (WL.getD t []).length < 1000 := (wl_len t ht).2
  obtain ⟨adK, adV, h, h2⟩ := vk_Sof (args := args) (s := s) (N := 1) (tm := fun _ => tmS t) (len := [(WL.getD t []).length]) (byt := [(WL.getD t []).map nI]) (A := A)
    (fun i hi => by rw [show i = 0 by omega]; exact Nat.lt_trans hl (by decide)) (fun i hi => hfl _ (tp_ex t (by omega))) (fun i hi => hfl _ w1) (fun i hi => hfl _ w2)
    (fun i hi => by rw [show i = 0 by omega]; exact hfl _ w3) (fun i hi j hj => by rw [show i = 0 by omega] at hj ⊢; exact hfl _ (w4 j hj)) (fun i j hi hj hij => absurd (show i = j by omega) hij) hA
  have e : adK 0 = a := by
    have := (h2 0 (by decide)).symm.trans ha
    cases this
    rfl
  have h0 := h.1 0 (by decide)
  rw [e] at h0
  exact ⟨adV 0, h0⟩
theorem of_same {o n d : String} {v v1 : Value} {t : Nat} {A : Nat → Prop} {U : State} {H : Heap} (h1 : va_OF o n d v t A U H) (h2 : va_OF o n d v1 t A U H) : v = v1 := by
  obtain ⟨cf, k, i, f, cell, q1, q2, q3, q4, q5, q6⟩ := h1
  obtain ⟨cf', k', i', f', cell', r1, r2, r3, r4, r5, r6⟩ := h2
  cases q1.symm.trans r1
  cases q3.symm.trans r3
  exact Option.some.inj (q5.symm.trans r5)
/-- the array class of a word, at the start -/
theorem arr_at {args : Array Value} {s : State} {ty : FieldType} (h : (Cond.arrayClass ty).before args s = true) (hp : match ty with | .object _ => False | _ => True) : ∃ cA : ClassId, ArrOfT s cA ty ∧ va_RA s cA ty := by
  obtain ⟨cA, kA, comp, h1, h2, h3⟩ := Cond.arrayClass_spec (args := args) (first := s) (o := none) (s := s) (idx := []) h
  refine ⟨cA, fun n z => ⟨fun k h => (by cases h), kA, h2, comp, h3⟩, ?_⟩
  cases ty <;> first | exact hp.elim | exact h1
theorem arr_at5 {args : Array Value} {s : State} {C : String} (h : (Cond.arrayOver (.object C)).before args s = true) : ∃ cA : ClassId, ArrOfT s cA (.object C) ∧ va_RA s cA (.object C) := by
  obtain ⟨comp, cA, kA, h1, h2, h3, h4, h5⟩ := Cond.arrayOver_spec (args := args) (first := s) (o := none) (s := s) (idx := []) h
  exact ⟨cA, fun n z => ⟨fun k h => (by cases h), kA, h3, comp, h4⟩, kA, comp, h3, h4, h1, h5⟩
theorem srok_MI : SRok MI := by
  have h : ∀ o, o < 126 → ∀ k, k < 40 → (srT o k).isSome = true → gR MI o k = srT o k := by decide +kernel
  intro o k j hj
  have ho : o < 126 := by
    refine Nat.lt_of_not_le (fun z => ?_)
    have e : srL.getD o [] = [] := by
      rw [List.getD_eq_getElem?_getD, List.getElem?_eq_none (by exact z)]; rfl
    simp only [srT, e, List.getD_eq_getElem?_getD, List.getElem?_nil, Option.getD_none] at hj
    exact nomatch hj
  have hk : k < 40 := by
    refine Nat.lt_of_not_le (fun z => ?_)
    have e : ∀ o, o < 126 → (srL.getD o []).length ≤ 40 := by decide +kernel
    have e1 := e o ho
    simp only [srT, List.getD_eq_getElem?_getD] at hj e1
    rw [List.getElem?_eq_none (by omega)] at hj
    exact nomatch hj
  rw [h o ho k hk (by rw [hj]; rfl), hj]
theorem whole_start {p : Program} {e : Env} {s : State} {m : MethodId} {below : List Frame} {meth : Method} {c : Code} (l : Launch) (hflags : l.flags = flags0) {b L : Nat} {xs : Nat → Int32} (hL : L ≤ 3072) (C0 : lw_At p s m meth c b L xs) : W p l e room_1 s m #[Value.ref b] below meth c s.heap [] 0 0 (lw_Z below #[Value.ref b] s) (entryFrame m ([Value.ref b] : List Value).toArray 9) := by
  obtain ⟨hx, hb, hr, hml, hown, hts, hX, hbl, hlk, hgv⟩ := C0
  have hfl := flat_of_before _ hgv
  have hA : ∀ a : Nat, a < s.heap.size → ¬ (fun q => s.heap.size ≤ q) a := fun a h => Nat.not_le.mpr h
  -- classes
  have hcl : ∀ i : Nat, ∃ q : ClassId × (Nat → Nat), ∀ r : vw_C, vwCl[i]? = some r → u_Kn s r.1 r.2.1 r.2.2 q.1 q.2 := by
    intro i
    match i with
    | 0 =>
      obtain ⟨cC, iS, h⟩ := u_known (C := RX0) (T := TX0) (N := 8) hts (fun w hw => (uw0 w hw).1) (hts _ ki_0.1)
      exact ⟨(cC, iS), fun r hr => by cases hr; exact h⟩
    | 1 =>
      obtain ⟨cC, iS, h⟩ := u_known (C := RX1) (T := TX1) (N := 7) hts (fun w hw => (uw1 w hw).1) (hts _ ki_1.1)
      exact ⟨(cC, iS), fun r hr => by cases hr; exact h⟩
    | 2 =>
      obtain ⟨cC, iS, h⟩ := u_known (C := RX2) (T := TX2) (N := 7) hts (fun w hw => (uw2 w hw).1) (hts _ ki_2.1)
      exact ⟨(cC, iS), fun r hr => by cases hr; exact h⟩
    | 3 =>
      obtain ⟨cC, iS, h⟩ := u_known (C := RX3) (T := TX3) (N := 4) hts (fun w hw => (uw3 w hw).1) (hts _ ki_3.1)
      exact ⟨(cC, iS), fun r hr => by cases hr; exact h⟩
    | 4 =>
      obtain ⟨cC, iS, h⟩ := u_known (C := RX4) (T := TX4) (N := 7) hts (fun w hw => (uw4 w hw).1) (hts _ ki_4.1)
      exact ⟨(cC, iS), fun r hr => by cases hr; exact h⟩
    | 5 =>
      obtain ⟨cC, iS, h⟩ := u_known (C := RX5) (T := TX5) (N := 11) hts (fun w hw => (uw5 w hw).1) (hts _ ki_5.1)
      exact ⟨(cC, iS), fun r hr => by cases hr; exact h⟩
    | 6 =>
      obtain ⟨cC, iS, h⟩ := u_known (C := RX6) (T := TX6) (N := 2) hts (fun w hw => (uw6 w hw).1) (hts _ ki_6.1)
      exact ⟨(cC, iS), fun r hr => by cases hr; exact h⟩
    | 7 =>
      obtain ⟨cC, iS, h⟩ := u_known (C := RX7) (T := TX7) (N := 9) hts (fun w hw => (uw7 w hw).1) (hts _ ki_7.1)
      exact ⟨(cC, iS), fun r hr => by cases hr; exact h⟩
    | 8 =>
      obtain ⟨cC, iS, h⟩ := u_known (C := RX8) (T := TX8) (N := 4) hts (fun w hw => (uw8 w hw).1) (hts _ ki_8.1)
      exact ⟨(cC, iS), fun r hr => by cases hr; exact h⟩
    | 9 =>
      obtain ⟨cC, iS, h⟩ := u_known (C := RX9) (T := TX9) (N := 3) hts (fun w hw => (uw9 w hw).1) (hts _ ki_9.1)
      exact ⟨(cC, iS), fun r hr => by cases hr; exact h⟩
    | 10 =>
      obtain ⟨cC, iS, h⟩ := u_known (C := RX10) (T := TX10) (N := 4) hts (fun w hw => (uw10 w hw).1) (hts _ ki_10.1)
      exact ⟨(cC, iS), fun r hr => by cases hr; exact h⟩
    | 11 =>
      obtain ⟨cC, iS, h⟩ := u_known (C := RX11) (T := TX11) (N := 12) hts (fun w hw => (uw11 w hw).1) (hts _ ki_11.1)
      exact ⟨(cC, iS), fun r hr => by cases hr; exact h⟩
    | 12 =>
      obtain ⟨cC, iS, h⟩ := u_known (C := RX12) (T := TX12) (N := 32) hts (fun w hw => (uw12 w hw).1) (hts _ ki_12.1)
      exact ⟨(cC, iS), fun r hr => by cases hr; exact h⟩
    | i + 13 => exact ⟨(0, fun _ => 0), fun r hr => nomatch (show (none : Option vw_C) = some r from hr)⟩
  obtain ⟨D0, hD0⟩ := Classical.axiomOfChoice hcl
  -- arrays
  have har : ∀ k : Nat, ∃ cA : ClassId, ∀ ty : FieldType, ([.int, .long, .byte, .boolean, .double, .object "DecisionChain$Settings"] : List FieldType)[k]? = some ty → ArrOfT s cA ty ∧ va_RA s cA ty := by
    intro k
    match k with
    | 0 =>
      obtain ⟨cA, h⟩ := arr_at (hts _ ka_int.1) trivial
      exact ⟨cA, fun ty e => by cases e; exact h⟩
    | 1 =>
      obtain ⟨cA, h⟩ := arr_at (hts _ ka_long.1) trivial
      exact ⟨cA, fun ty e => by cases e; exact h⟩
    | 2 =>
      obtain ⟨cA, h⟩ := arr_at (hts _ ka_byte.1) trivial
      exact ⟨cA, fun ty e => by cases e; exact h⟩
    | 3 =>
      obtain ⟨cA, h⟩ := arr_at (hts _ ka_boolean.1) trivial
      exact ⟨cA, fun ty e => by cases e; exact h⟩
    | 4 =>
      obtain ⟨cA, h⟩ := arr_at (hts _ ka_double.1) trivial
      exact ⟨cA, fun ty e => by cases e; exact h⟩
    | 5 =>
      obtain ⟨cA, h⟩ := arr_at5 (C := "DecisionChain$Settings") (hts _ (List.mem_of_getElem? (i := 376) (by decide +kernel)))
      exact ⟨cA, fun ty e => by cases e; exact h⟩
    | k + 6 => exact ⟨0, fun ty h => nomatch (show (none : Option FieldType) = some ty from h)⟩
  obtain ⟨dA, hdA⟩ := Classical.axiomOfChoice har
  -- texts
  have htx : ∀ t : Nat, ∃ a : Nat, t < 26 → (tmS t).eval #[Value.ref b] s none [] s = some (.ref a) := by
    intro t
    by_cases ht : t < 26
    · obtain ⟨a, c, cA, kA, q1, -⟩ := Cond.exactly_spec (args := #[Value.ref b]) (first := s) (o := none) (s := s) (idx := []) (t := tmS t) (cls := "java/lang/String") (hfl _ (tp_ex t ht))
      exact ⟨a, fun _ => q1⟩
    · exact ⟨0, fun h => absurd h ht⟩
  obtain ⟨st, hst⟩ := Classical.axiomOfChoice htx
  have hwd : ∀ t : Nat, ∃ v : Nat, t < 10 → va_O "java/lang/String" (st t) (fun q => s.heap.size ≤ q) s s.heap ∧ va_OF "java/lang/String" "coder" "B" (.int 0) (st t) (fun q => s.heap.size ≤ q) s s.heap ∧ va_OF "java/lang/String" "value" "[B" (.ref v) (st t) (fun q => s.heap.size ≤ q) s s.heap ∧ va_T .byte v (WL.getD t []).length (fun j => .int (((WL.getD t []).map nI).getD j 0)) (fun q => s.heap.size ≤ q) s s.heap := by
    intro t
    by_cases ht : t < 10
    · obtain ⟨v, hv⟩ := word_of hfl hA ht (hst t (by omega))
      exact ⟨v, fun _ => hv⟩
    · exact ⟨0, fun h => absurd h ht⟩
  obtain ⟨sv, hsv⟩ := Classical.axiomOfChoice hwd
  have hKs : va_K (fun i => (D0 i).1, fun i => (D0 i).2) vwCl (tysA dA) s := by
    refine ⟨fun i r hr => hD0 i r hr, fun k q hq => ?_⟩
    have key : ∀ k q, (tysA dA)[k]? = some q → q.1 = dA k ∧ ([.int, .long, .byte, .boolean, .double, .object "DecisionChain$Settings"] : List FieldType)[k]? = some q.2 := by
      intro k q hq
      match k with
      | 0 => cases hq; exact ⟨rfl, rfl⟩
      | 1 => cases hq; exact ⟨rfl, rfl⟩
      | 2 => cases hq; exact ⟨rfl, rfl⟩
      | 3 => cases hq; exact ⟨rfl, rfl⟩
      | 4 => cases hq; exact ⟨rfl, rfl⟩
      | 5 => cases hq; exact ⟨rfl, rfl⟩
      | k + 6 => exact nomatch (show (none : Option (ClassId × FieldType)) = some q from hq)
    obtain ⟨k1, k2⟩ := key k q hq
    rw [k1]
    exact hdA k q.2 k2
  have htr : l.stackTraces = false := by
    unfold Launch.stackTraces
    rw [hflags]
    decide
  have hHG : ∀ (K : Mem → Prop) (ad : Nat → Nat) (sh : List SE), (∀ M M', (∀ a b, gR M' a b = gR M a b) → K M → K M') → HG (s, (fun i => (D0 i).1, fun i => (D0 i).2), dA, K, ad, sh, l, st, sv) := fun K ad sh hK =>
    ⟨fun w hw a U hU => hw.at hts hU, hKs, htr, vx_Zqof (hts _ (List.mem_of_getElem? (i := 618) (by decide +kernel))) (hts _ (List.mem_of_getElem? (i := 136) (by decide +kernel))) (hfl _ (by decide +kernel)) hA, vx_Zqof (hts _ (List.mem_of_getElem? (i := 620) (by decide +kernel))) (hts _ (List.mem_of_getElem? (i := 136) (by decide +kernel))) (hfl _ (by decide +kernel)) hA, hK⟩
  have hsr : ∀ M M', (∀ a b, gR M' a b = gR M a b) → SRok M → SRok M' := fun M M' h hM o k j hj => by rw [h]; exact hM o k j hj
  have hHN : ∀ ad : Nat → Nat, HN (s, (fun i => (D0 i).1, fun i => (D0 i).2), dA, SRok, ad, SH, l, st, sv) := by
    intro ad
    refine ⟨hHG _ _ _ hsr, rfl, rfl, fun q hq => ?_, ⟨fun i hi => ?_, fun i j hi hj eij => ?_⟩, va_Zof (hts _ (List.mem_of_getElem? (i := 719) (by decide +kernel))) (hts _ (List.mem_of_getElem? (i := 142) (by decide +kernel))) (va_eqt (hfl _ (by decide +kernel))) hA, va_Zqof (hts _ (List.mem_of_getElem? (i := 735) (by decide +kernel))) (hts _ (List.mem_of_getElem? (i := 144) (by decide +kernel))) (hfl _ (by decide +kernel)) hA⟩
    · obtain ⟨h1, h2, h3⟩ := tp_stl q hq
      refine vk_R.of (hts _ h2) ?_
      have ht := hst _ h1
      rcases h3 with h3 | h3
      · rw [h3] at ht
        exact ht
      · exact va_eqR (hfl _ h3) ht
    · rw [(wl_map i hi).1, (wl_map i hi).2]
      exact hsv i hi
    · obtain ⟨-, -, a1, a2⟩ := hsv i hi
      obtain ⟨-, -, b1, b2⟩ := hsv j hj
      have eij' : st i = st j := eij
      rw [eij'] at a1
      have ev : sv i = sv j := by
        have hz := of_same a1 b1
        exact Value.ref.inj hz
      rw [ev] at a2
      obtain ⟨cell, c1, c2, c3, c4, c5, c6, c7⟩ := a2
      obtain ⟨cell', d1, d2, d3, d4, d5, d6, d7⟩ := b2
      cases c1.symm.trans d1
      have hlen : (WL.getD i []).length = (WL.getD j []).length := by
        have := c5.symm.trans d5
        exact (nI_eq (Nat.lt_trans (wl_len i hi).2 (by decide)) (Nat.lt_trans (wl_len j hj).2 (by decide))).mp this
      refine wl_inj i hi j hj hlen (fun k hk => ?_)
      have := (c6 k hk).symm.trans (d6 k (by rw [← hlen]; exact hk))
      simp only [Option.some.injEq, Value.int.injEq] at this
      exact this
  have hNC : ∀ ad : Nat → Nat, NC (s, (fun i => (D0 i).1, fun i => (D0 i).2), dA, SRok, ad, SH, l, st, sv) := fun ad a b ha hb hab => va_Nc.of (hfl _ (tp_nc a ha b hb hab))
  have hov : va_AO "DecisionChain$Settings" s := va_AO.of (hts _ (List.mem_of_getElem? (i := 376) (by decide +kernel)))
  have hd0 := Drawn.sameBut.refl s.drawn lw_cs
  obtain ⟨Z, hZ⟩ := layerB L xs hL
  have hS0 : va_S (fun q => s.heap.size ≤ q) s.heap s.heap [] := va_S.rf
  have hWs : s.WarmedH s.vm := State.WarmedH.refl s
  have hG0 := hHG (fun _ => True) (fun _ => 0) (SH.take 0) (fun _ _ _ _ => trivial)
  have C : CX (s, (fun i => (D0 i).1, fun i => (D0 i).2), dA, (fun _ => True), (fun _ => 0), SH.take 0, l, st, sv) (p, e, room_1, s, m, #[Value.ref b], below, meth, c, lw_Z below #[Value.ref b] s) cL_law 9 RL (some .boolean) room_1 :=
    ⟨hx, hb, hml, hown, fun w hw => hw.at hts hWs, hWs, hlk, hr, rfl, hKs, hS0, hG0⟩
  have hgo := c_head (b := b) (ad0 := fun _ => 0) hG0 hov C (fun ad hag H locs ls a1 a2 a3 a4 a5 => by
    have C1 : CX (s, (fun i => (D0 i).1, fun i => (D0 i).2), dA, SRok, ad, SH, l, st, sv) (p, e, room_1, s, m, #[Value.ref b], below, meth, c, lw_Z below #[Value.ref b] s) cL_law 9 RL (some .boolean) room_1 :=
      ⟨hx, hb, hml, hown, fun w hw => hw.at hts hWs, hWs, hlk, hr, rfl, hKs, hS0, hHG _ _ _ hsr⟩
    have hE : EndL (s, (fun i => (D0 i).1, fun i => (D0 i).2), dA, SRok, ad, SH, l, st, sv) (p, e, room_1, s, m, #[Value.ref b], below, meth, c, lw_Z below #[Value.ref b] s) := by
      intro H1 locs1 ls1 pc1 hS1 hd1
      refine va_forget (fun q hq => hS1.2.2 q hq) ?_
      exact W.base (lw_ret hd0 hx hb hr hlk hd1)
    exact c_lpLaw (hHN ad) (hNC ad) C1 hE (b := b) ⟨hX, hbl⟩ 600 _ _ MI 0 (by decide) (by decide) hZ H locs ls srok_MI a2 a3 a4 a5)
  have hl := lv_entry ([.ref b]) (n := 9) (Nat.le_of_ble_eq_true rfl)
  rw [lg_entry_eq]
  have hP0 : va_P (fun i => (D0 i).1, fun i => (D0 i).2) vwCl [] s.heap := fun k q h => nomatch h
  have hD00 : va_D (fun q => s.heap.size ≤ q) [] := ⟨(fun i j p q h => nomatch h), (fun k q h => nomatch h)⟩
  exact hgo s.heap [] _ trivial hP0 hD00 hS0 (by rw [hml]; exact hl)
set_option maxHeartbeats 4000000 in
theorem lw_walk (l : Launch) (hflags : l.flags = flags0) (b : Addr) (xs : List Int32) : MetFree l x (headSpec (Jvm.Cond.code x code maxLocals ret :: tables_1) room_1) (lw_P b xs) (fun _ _ _ _ _ => True) lw_Q := by
  refine MetFree.of_bodyS (code := code) (maxLocals := maxLocals) (ret := ret) (by decide) ?_ ?_
  · intro args s m h hn
    obtain ⟨meth, c, h1, h2, h3, h4, h5, h6, -, -⟩ := Cond.code_spec hn (atoms_spec (ws := Jvm.Cond.code x code maxLocals ret :: tables_1) h _ List.mem_cons_self)
    exact ⟨meth, c, h1, h2, h3, h4, h5, h6⟩
  · intro p e s m args below meth c s₁ B hml0 hP _
    obtain ⟨rfl, hx, hbd, hgv⟩ := hP
    obtain ⟨scr, harrAt, hlist, hof, hsmall⟩ := hx
    obtain ⟨hcb, hkn, -, -⟩ := State.arrayAt?_spec harrAt
    have hown : s.vm.findClass R_law = some m.cls := findClass_of_methodNamed B.named
    have hts0 : ∀ c ∈ (Jvm.Cond.code x code maxLocals ret :: tables_1), c.before #[Value.ref b] s = true := atoms_spec (ws := Jvm.Cond.code x code maxLocals ret :: tables_1) B.pre
    have hts : ∀ w ∈ lw_tbl, w.before #[Value.ref b] s = true := k2_hts_sels lw_privs (fun w hw => hts0 w (List.mem_cons_of_mem _ hw)) lw_privs_ok
    have hml : c.maxLocals = 9 := B.maxLocals_eq (hts0 _ List.mem_cons_self)
    have X₀ : Stand p l e room_1 s m #[Value.ref b] below meth c s₁ [] 0 0 := Stand.of_body B
    have hh0 : s₁.heap = s.heap := by rw [B.state]; rfl
    have hsz : scr.slots.size = xs.length := by rw [← Array.length_toList, hlist, List.length_map]
    have hval : ∀ j : Nat, j < xs.length → scr.slots[j]? = some (.int (xs.getD j 0)) := fun j hj => by
      rw [← Array.getElem?_toList, hlist]
      simp [hj]
    have hbl : b < s.heap.size := (Array.getElem?_eq_some_iff.mp hcb).1
    have hX : va_X b xs.length (fun j => xs.getD j 0) s s.heap := ⟨scr, hcb, hof, hkn, hsz, hval⟩
    have K : W p l e room_1 s m #[Value.ref b] below meth c s₁.heap [] 0 0 (lw_Z below #[Value.ref b] s) (entryFrame m ([Value.ref b] : List Value).toArray 9) := by
      rw [hh0]
      exact whole_start l hflags hbd ⟨B.exec, B.bytes, B.returns, hml, hown, hts, hX, hbl, B.notSynchronized, hgv⟩
    obtain ⟨t, a1, o, b1, b2, b3⟩ := K s₁ rfl X₀
    exact ⟨t, o, a1, b1, b2, b3⟩
theorem lw_pre_spec {args : Array Value} {s : State} (h : (Jvm.Cond.and given_1 narrow_1).before args s = true) (hr : rest_1_c.before args s = true) : ∃ (b : Addr) (xs : List Int32), lw_P b xs args s := by
  have hs := flat_of_before _ h
  have hq := flat_of_before _ hr
  have hc : (Cond.count 1).before args s = true := hs _ (by decide +kernel)
  have harr : (Cond.arrayOf (.arg 0) .int).before args s = true := hs _ (by decide +kernel)
  have hle : (Cond.le (.length (.arg 0)) (.int 3072)).before args s = true := hs _ (by decide +kernel)
  have hlen : (Cond.isInt (.length (.arg 0))).before args s = true := hq _ (by decide +kernel)
  have hall : (Cond.all (.arg 0) (.isInt (.elem (.arg 0) (.index 0)))).before args s = true := hq _ (by decide +kernel)
  obtain ⟨b, xs, hb, hx⟩ := State.ints_of_pre rfl harr hlen hall
  have hsm : xs.length < 2 ^ 31 := hx.choose_spec.2.2.2
  have hev : (Term.length (.arg 0)).eval args s none [] s = some (.int xs.length.toInt32) := hx.length_eval hb
  have hv := Cond.le_ints hev (show (Term.int 3072).eval args s none [] s = some (.int 3072) from rfl)
  have hd : xs.length.toInt32 ≤ 3072 := by
    simpa [Cond.before, Cond.holds, hv] using hle
  have hN : xs.length ≤ 3072 := (Int32.ofNat_le_ofNat hsm (by decide)).mp (show Int32.ofNat xs.length ≤ Int32.ofNat 3072 from hd)
  exact ⟨b, xs, Cond.one_arg hc (show args[0]? = some (.ref b) from hb), hx, hN, h⟩
theorem lw_comes (l : Launch) (hflags : l.flags = flags0) : Comes l x (Jvm.Cond.code x code maxLocals ret :: tables_1) room_1 (fun tb e args s => Calls_1 tb e args s ∧ rest_1 tb e args s ∧ Pre_1 tb e args s)
    (fun _ _ args s o t => lw_Q args s o t) := by
  intro p e ha hc hk s m args below hf hfit hheap happ hpre
  obtain ⟨b, xs, hP⟩ := lw_pre_spec hpre.2.2 hpre.2.1
  obtain ⟨k, o, h1, h2, h3, hQ⟩ := lw_walk l hflags b xs p e ha hc hk s m args below hf ((Spec.applies_iff_loose hf).mp happ).1 hP trivial
  exact ⟨k, o, h1, h2, h3, hQ⟩
theorem lw_frame {s t : State} {o : Outcome} {args : Array Value} (h : State.butDraws s t lw_cs (fun t1 => Framed s o t1 [] 601024 7293034)) :
    State.butDraws s t [Jvm.Choice.named "NaN.bits"] (fun t1 => Framed s o t1 (fieldLocs frame_1_writes args s ++ arrayLocs frame_1_arrays args s ++ staticLocs frame_1_statics s) 601024 7293034) := h
theorem lw_limb (L : Cond) (hL : ∀ (args : Array Value) (s t : State), L.after args s (.returned (some (.int 1))) t = true) :
    ArmFor flags0 classFile x code maxLocals ret World_1 tables_1 room_1 Calls_1 rest_1 Pre_1
      (fun tb e a s o t => postC L tb e a s o t ∧ State.butDraws s t [Jvm.Choice.named "NaN.bits"] (fun t1 => Framed s o t1 (fieldLocs frame_1_writes a s ++ arrayLocs frame_1_arrays a s ++ staticLocs frame_1_statics s) 601024 7293034)) := by
  intro l hflags _ _ p e ha hc hk s m args below hf hfit hheap happ hpre
  obtain ⟨k, o, h1, h2, h3, rfl, hF⟩ := lw_comes l hflags p e ha hc hk s m args below hf hfit hheap happ hpre
  exact ⟨k, _, h1, h2, h3, hL args s _, lw_frame hF⟩
theorem i_vc : Claimed_1_1 ∧ Claimed_1_2 := ⟨lw_limb limb_1_1 (fun args s t => by simp [limb_1_1, Cond.after, Cond.holds, Cond.value]), lw_limb limb_1_2 (fun args s t => Cond.after_iff.mpr (by
  first | (rw [show limb_1_2 = Cond.eq .result (.int 1) from rfl, Cond.eq_ints (x := 1) (y := 1) rfl rfl]; simp; done) | (simp [limb_1_2, Cond.value, Term.eval]; done)))⟩
