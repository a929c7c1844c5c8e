section
/-! ===== BEGIN words of one list among another's, by their places ===== -/
theorem goodIn_r {big : List Cond} (ws : List Cond) (ps : List Nat) (hp : ws = ps.filterMap (fun i => big[i]?)) (h : ws.all goodWord = true) : GoodIn big ws := by
  intro w hw
  have h1 := List.all_eq_true.mp h w hw
  rw [hp] at hw
  obtain ⟨i, -, hi⟩ := List.mem_filterMap.mp hw
  have hm : w ∈ big := by first | exact List.mem_of_getElem? hi | exact List.getElem?_mem hi
  exact ⟨hm, good_of_word h1⟩
theorem goodIn_app {big a b : List Cond} (ha : GoodIn big a) (hb : GoodIn big b) : GoodIn big (a ++ b) := fun w h => (List.mem_append.mp h).elim (ha w) (hb w)
theorem goodIn_ca {big a b : List Cond} {c : Cond} (ha : GoodIn big (c :: a)) (hb : GoodIn big b) : GoodIn big (c :: (a ++ b)) := fun w h => (List.mem_cons.mp h).elim (fun e => ha w (List.mem_cons.mpr (Or.inl e))) (fun h => (List.mem_append.mp h).elim (fun h => ha w (List.mem_cons.mpr (Or.inr h))) (hb w))
theorem goodIn_sub {big ws : List Cond} (hm : ∀ w ∈ ws, w ∈ big) (h : ws.all goodWord = true) : GoodIn big ws := fun w hw => ⟨hm w hw, good_of_word (List.all_eq_true.mp h w hw)⟩
/-! ===== END ===== -/



/-! ===== BEGIN exceptions that leave a method, and their catching by the caller (launches without stack traces) ===== -/
section VXA
/-! The laws vx_back, vx_callV, vx_callS, vx_callSW, vx_throw0, vx_throwS follow proofs of the library, with one case more: JvmDerived/Free/Laws.lean (Back.of_free), Shelf42/LK1.lean (callV, callS), Shelf/KitTraced.lean (throwNew0V, throwNewS). -/
/-- where a method has thrown q: the class by its name, the cell, what was written, the world -/
def vx_T (XC : String → State → State → Prop) (st : State) (q : Addr) (t : State) (mc ms : Nat) (free : Addr → Prop) : Prop :=
  ∃ (E : String) (ce : Cell) (L : List Loc), XC E st t ∧ t.heap[q]? = some ce ∧ ce.vm = .none ∧ st.vm.findClass E = some ce.cls ∧ st.WarmedH t.vm ∧ st.sameButNew ({ t with vm := st.vm } : State) L mc ms ∧ ∀ z ∈ L, free z.base
def vx_Q (Qc : Array Value → State → Outcome → State → Prop) (XC : String → State → State → Prop) (mc ms : Nat) (free : Addr → Prop) : Array Value → State → Outcome → State → Prop := fun a st o t =>
  (Qc a st o t ∧ ∃ L, FrameEnd st o t L mc ms ∧ ∀ q ∈ L, free q.base) ∨ ∃ q, o = .threw q ∧ vx_T XC st q t mc ms free
/-- a callee that returns or throws -/
def vx_Met (l : Launch) (y : MethodName) (ws : List Cond) (rm : Room) (Pc : Array Value → State → Prop) (Qc : Array Value → State → Outcome → State → Prop) (XC : String → State → State → Prop) (mc ms : Nat) (free : Addr → Prop) : Prop :=
  MetFree l y (headSpec ws rm) Pc (fun _ _ _ _ _ => True) (vx_Q Qc XC mc ms free)
def vx_Post (XC : String → State → State → Prop) (mc ms : Nat) (free : Addr → Prop) : Pt → Array Value → Addr → Pt → Prop := fun A a q B =>
  ∃ (g : JFrame) (mk : MethodId) (t : State) (L : List Loc) (E : String) (ce : Cell), B.U.heap = t.heap ∧ B.U.vm = t.vm ∧ XC E (A.U.calling g mk a) t ∧ t.heap[q]? = some ce ∧ ce.vm = .none ∧ A.U.vm.findClass E = some ce.cls ∧ B.locs = A.locs ++ L ∧ (∀ z ∈ L, free z.base) ∧ B.cells = A.cells + mc ∧ B.slots = A.slots + ms
def vx_Back (l : Launch) (R : Room) (p : Program) (e : Env) (below : List Frame) (s : State) (sargs : Array Value) (y : MethodName) (len W9 : Nat)
    (Pre : Pt → Array Value → Prop) (Post : Pt → Array Value → Option Value → Pt → Prop) (PostX : Pt → Array Value → Addr → Pt → Prop) : Prop :=
  ∀ (m : MethodId) (meth : Method) (c : Code) (A : Pt) (g : JFrame) (ig : Instr) (mk : MethodId) (a : Array Value),
    Stand p l e R s m sargs below meth c A.U A.locs A.cells A.slots → g.method = m → g.locals.size = c.maxLocals → decode c.code g.pc = .ok (ig, len) →
    2 * g.monitorRoom + (g.stack.map fun v => v.category).sum ≤ W9 → A.U.methodNamed? y = some mk → Pre A a →
    (∃ (v : Option Value) (B : Pt), Stand p l e R s m sargs below meth c B.U B.locs B.cells B.slots ∧ Post A a v B ∧
      Steps p.tables e below (doInvoke e (A.U.setTop g) [] mk a).1 (B.U.setTop { g with pc := g.pc + len, stack := v.toList ++ g.stack })) ∨
    (∃ (q : Addr) (B : Pt), Stand p l e R s m sargs below meth c B.U B.locs B.cells B.slots ∧ PostX A a q B ∧
      Steps p.tables e below (doInvoke e (A.U.setTop g) [] mk a).1 ((B.U.setTop g).pushFrame (.throwing q)))
section Payer
variable {l : Launch} {R : Room} {p : Program} {e : Env} {below : List Frame} {s : State} {sargs : Array Value} {y : MethodName} {len W9 : Nat}
theorem vx_back {ws : List Cond} {rm : Room} {Pc : Array Value → State → Prop} {Qc : Array Value → State → Outcome → State → Prop} {XC : String → State → State → Prop} {mc ms : Nat} {free : Addr → Prop} {bytes : ByteArray} {maxL : Nat} {ret : Option FieldType}
    (hM : vx_Met l y ws rm Pc Qc XC mc ms free) (hblind : FrameBlind Pc) (hrc : rm.cells = mc) (hrs : rm.slots = ms)
    (hframes : rm.frames + 1 ≤ R.frames) (hlocals : W9 + (maxL + 11) + rm.locals ≤ R.locals)
    (hws : ∀ w ∈ ws, ∀ a' U, s.WarmedH U.vm → w.before a' U = true) (hcode : Cond.code y bytes maxL ret ∈ ws) (hinit : ∀ a' U, s.WarmedH U.vm → (Cond.initialized y.cls).before a' U = true) :
    vx_Back l R p e below s sargs y len W9 (PreOf R mc ms Pc) (PostOf Qc mc ms free) (vx_Post XC mc ms free) := by
  intro m meth c A g ig mk a X hg hsize hdg hW hn hp
  have h1 : (headSpec ws rm).pre.before a A.U = true := atoms_intro fun w hw => hws w hw _ _ X.warmed
  have h2 : (Cond.code y bytes maxL ret).before a A.U = true := hws _ hcode _ _ X.warmed
  have h3 : (Cond.initialized y.cls).before a A.U = true := hinit _ _ X.warmed
  have h4 : A.cells + (headSpec ws rm).room.cells ≤ R.cells := by rw [show (headSpec ws rm).room.cells = mc from hrc]; exact hp.1
  have h5 : A.slots + (headSpec ws rm).room.slots ≤ R.slots := by rw [show (headSpec ws rm).room.slots = ms from hrs]; exact hp.2.1
  have hPc : Pc a (A.U.calling g mk a) := hblind _ _ _ _ hp.2.2
  obtain ⟨U, Ls, c0, s0⟩ := A
  dsimp only [Pt.U, Pt.locs, Pt.cells, Pt.slots] at h1 h2 h3 h4 h5 X hn hPc ⊢
  obtain ⟨methY, cY, hmY, hcY, -, hlY, -, -, -, -⟩ := Cond.code_spec hn h2
  obtain ⟨kY, hkY, -⟩ := className_of_methodNamed hn
  have hinitY : kY.init = .initialized := Cond.initialized_spec (findClass_of_methodNamed hn) hkY h3
  have h : At U g.method c below := by rw [hg]; exact X.here
  have hlocals9 : W9 + (maxL + 11) + (headSpec ws rm).room.locals ≤ R.locals := hlocals
  have happ : (headSpec ws rm).appliesLoose y e.platform (U.calling g mk a) = true :=
    Spec.appliesLoose_calling (g := g) h hdg hn hkY hinitY
      (X.room_calling (g := g) (R' := (headSpec ws rm).room) hsize hmY hcY hframes (by rw [hlY]; omega) h4 h5) h1
  obtain ⟨mid, hmid⟩ := h.above
  have hfr : (U.setTop g).frames = (.java g :: mid) ++ below := by rw [State.frames_setTop' g h.top, hmid]; rfl
  obtain ⟨o, s₂, hsteps, -, hend, hq⟩ := Steps.callFree hM p X.admits X.cas X.clock (acts := []) hfr happ hPc trivial
  have hq' : vx_Q Qc XC mc ms free a (U.calling g mk a) o s₂ := hq
  rw [State.frames_setTop' g h.top] at hend
  obtain ⟨g₀, hg0⟩ := Option.isSome_iff_exists.mp h.top
  obtain ⟨r, hr⟩ := State.topJava?_eq_some.mp hg0
  have hr' : (({ U with heap := s₂.heap, slotsUsed := s₂.slotsUsed } : State).setVm s₂.vm).frames = .java g₀ :: r := hr
  rcases hq' with ⟨hqc, L, hfe, hL⟩ | ⟨q, rfl, E, ce, L, hx, hce, hcv, hcl, hW₂, hsm, hL⟩
  · obtain ⟨⟨v, rfl⟩, hW₂, e2, q2, q3, q4, q5, q6⟩ := id hfe
    have e3 : s₂ = ({ (U.calling g mk a).setFrames s₂.frames with heap := s₂.heap, slotsUsed := s₂.slotsUsed } : State).setVm s₂.vm := by
      have : s₂ = ({ s₂ with vm := (U.calling g mk a).vm } : State).setVm s₂.vm := rfl
      rw [e2] at this
      exact this
    obtain ⟨c₂, i₂, len₂, hc₂, hd₂, hf₂⟩ := hend
    have hW' : U.WarmedH s₂.vm := hW₂
    have hcc : c₂ = c := by
      have h1 : s₂.code? g.method = U.code? g.method := by
        rw [State.code?_eq, State.code?_eq, hW'.alike.method?]
      exact Option.some.inj (hc₂.symm.trans (h1.trans h.code))
    subst hcc
    have hlen : len₂ = len := by rw [hdg] at hd₂; cases hd₂; rfl
    subst hlen
    have hs₂ : s₂ = (({ U with heap := s₂.heap, slotsUsed := s₂.slotsUsed } : State).setVm s₂.vm).setTop { g with pc := g.pc + len₂, stack := v.toList ++ g.stack } := by
      refine e3.trans ?_
      rw [hf₂, State.calling_eq h.top, State.setFrames_setFrames, State.setTop_of_frames _ hr', hr]
      rfl
    have hsame : U.sameButNew ({ U with heap := s₂.heap, slotsUsed := s₂.slotsUsed } : State) L mc ms := by
      refine ⟨?_, q2, q3, q4, q5, q6⟩
      obtain ⟨t, ht, -⟩ := State.frames_cons hr
      show ({ U with heap := s₂.heap, slotsUsed := s₂.slotsUsed } : State) = { U.setFrames U.frames with heap := s₂.heap, slotsUsed := s₂.slotsUsed }
      rw [State.setFrames_self ht]
    subst hg
    refine Or.inl ⟨v, ⟨(({ U with heap := s₂.heap, slotsUsed := s₂.slotsUsed } : State).setVm s₂.vm), Ls ++ L, c0 + mc, s0 + ms⟩,
      ⟨X.admits, X.cas, X.clock, X.frames, X.room, X.hears, X.method, X.code, (X.here.setHeapUsed s₂.heap s₂.slotsUsed).setVm hW'.alike, X.tail, State.WarmedH.trans X.warmed hW', X.limits, X.bytes, X.same.trans (hsame.setVm s.vm)⟩,
      ⟨g, mk, s₂, L, rfl, rfl, hqc, rfl, hL, rfl, rfl⟩, ?_⟩
    show Steps p.tables e below _ ((({ U with heap := s₂.heap, slotsUsed := s₂.slotsUsed } : State).setVm s₂.vm).setTop { g with pc := g.pc + len₂, stack := v.toList ++ g.stack })
    rw [← hs₂]
    exact hsteps
  · obtain ⟨e2, q2, q3, q4, q5, q6⟩ := id hsm
    have e3 : s₂ = ({ (U.calling g mk a).setFrames s₂.frames with heap := s₂.heap, slotsUsed := s₂.slotsUsed } : State).setVm s₂.vm := by
      have : s₂ = ({ s₂ with vm := (U.calling g mk a).vm } : State).setVm s₂.vm := rfl
      rw [e2] at this
      exact this
    have hf₂ : s₂.frames = .throwing q :: .java g :: U.frames.tail := hend
    have hW' : U.WarmedH s₂.vm := hW₂
    have hs₂ : s₂ = ((({ U with heap := s₂.heap, slotsUsed := s₂.slotsUsed } : State).setVm s₂.vm).setTop g).pushFrame (.throwing q) := by
      refine e3.trans ?_
      rw [hf₂, State.calling_eq h.top, State.setFrames_setFrames, State.pushFrame, State.frames_setTop _ hr', State.setTop_of_frames _ hr', State.setFrames_setFrames, hr]
      rfl
    have hsame : U.sameButNew ({ U with heap := s₂.heap, slotsUsed := s₂.slotsUsed } : State) L mc ms := by
      refine ⟨?_, q2, q3, q4, q5, q6⟩
      obtain ⟨t, ht, -⟩ := State.frames_cons hr
      show ({ U with heap := s₂.heap, slotsUsed := s₂.slotsUsed } : State) = { U.setFrames U.frames with heap := s₂.heap, slotsUsed := s₂.slotsUsed }
      rw [State.setFrames_self ht]
    subst hg
    refine Or.inr ⟨q, ⟨(({ U with heap := s₂.heap, slotsUsed := s₂.slotsUsed } : State).setVm s₂.vm), Ls ++ L, c0 + mc, s0 + ms⟩,
      ⟨X.admits, X.cas, X.clock, X.frames, X.room, X.hears, X.method, X.code, (X.here.setHeapUsed s₂.heap s₂.slotsUsed).setVm hW'.alike, X.tail, State.WarmedH.trans X.warmed hW', X.limits, X.bytes, X.same.trans (hsame.setVm s.vm)⟩,
      ⟨g, mk, s₂, L, E, ce, rfl, rfl, hx, hce, hcv, hcl, rfl, hL, rfl, rfl⟩, ?_⟩
    show Steps p.tables e below _ (((({ U with heap := s₂.heap, slotsUsed := s₂.slotsUsed } : State).setVm s₂.vm).setTop g).pushFrame (.throwing q))
    rw [← hs₂]
    exact hsteps
end Payer
section Calls
variable {p : Program} {l : Launch} {e : Env} {R : Room} {s : State} {m : MethodId} {args : Array Value} {below : List Frame} {meth : Method} {c : Code} {T : State} {locs : List Loc} {cells slots : Nat}
theorem vx_callV (X : Stand p l e R s m args below meth c T locs cells slots) (hexec : p.tables.exec = Jvm.exec) {own C : String} {index : Nat} {y : MethodName} {bytes : ByteArray} {maxL : Nat} {ret : Option FieldType}
    (hown : s.vm.findClass own = some m.cls) (hlink : (Cond.methodLink own index y).before args s = true) (hinst : (Cond.instanceMethod y).before args s = true) (hsel : (Cond.selects C y y).before args s = true)
    (hcode : (Cond.code y bytes maxL ret).before args s = true) (hy : y.cls ≠ "java/lang/invoke/MethodHandle" ∧ y.cls ≠ "java/lang/invoke/VarHandle")
    {W9 : Nat} {Pre : Pt → Array Value → Prop} {Post : Pt → Array Value → Option Value → Pt → Prop} {PostX : Pt → Array Value → Addr → Pt → Prop} (hK : vx_Back l R p e below s args y 3 W9 Pre Post PostX)
    {b : Addr} {cellB : Cell} (hcell : T.heap[b]? = some cellB) (hobj : cellB.vm.isStatics = false) (hcls : s.vm.findClass C = some cellB.cls)
    {g : JFrame} (hg : g.method = m) (hsize : g.locals.size = c.maxLocals) {argsL rest : List Value} (hlen : ∀ sig, parseMethodDescriptor y.desc = some sig → argsL.length = sig.parameters.length)
    (hstack : g.stack = argsL.reverse ++ .ref b :: rest) (hW : 2 * g.monitorRoom + (rest.map fun v => v.category).sum ≤ W9) (hdg : decode c.code g.pc = .ok (.invokevirtual index, 3))
    (hpre : ∀ vm₁, s.WarmedH vm₁ → Pre ⟨T.setVm vm₁, locs, cells, slots⟩ (Value.ref b :: argsL).toArray) :
    (∃ (v : Option Value) (vm₁ : Vm) (B : Pt), s.WarmedH vm₁ ∧ Stand p l e R s m args below meth c B.U B.locs B.cells B.slots ∧ Post ⟨T.setVm vm₁, locs, cells, slots⟩ (Value.ref b :: argsL).toArray v B ∧
      ∀ target, Steps p.tables e below (B.U.setTop { g with pc := g.pc + 3, stack := v.toList ++ rest }) target → Steps p.tables e below (T.setTop g) target) ∨
    (∃ (q : Addr) (vm₁ : Vm) (B : Pt), s.WarmedH vm₁ ∧ Stand p l e R s m args below meth c B.U B.locs B.cells B.slots ∧ PostX ⟨T.setVm vm₁, locs, cells, slots⟩ (Value.ref b :: argsL).toArray q B ∧
      Steps p.tables e below (T.setTop g) ((B.U.setTop { g with stack := rest }).pushFrame (.throwing q))) := by
  obtain ⟨mk, methM, hnamed, hmethM, hstM, habM⟩ := Cond.instanceMethod_spec hinst
  obtain ⟨methM', cM, hmethM', -, -, -, -, -, -, hsigM⟩ := Cond.code_spec hnamed hcode
  cases hmethM.symm.trans hmethM'
  obtain ⟨c2, r2, m2, q1, q2, q3, q4, kP, hkP, hkPi⟩ := Cond.selects_spec hsel
  cases hcls.symm.trans q1
  cases (State.methodFound?_of_named hnamed hy).symm.trans q2
  cases hnamed.symm.trans q3
  have hselP : selectMethod e.platform s.vm cellB.cls mk = .method mk := by rw [Launch.admits_selectMethod X.admits]; exact q4
  obtain ⟨vm₁, X₁, hstep₁⟩ := X.invokevirtual hexec hown hlink hnamed hmethM hstM hkP hkPi hy (a := b) (cell := cellB) hcell
    (fun z h => by rw [h] at hobj; cases hobj) hselP hmethM habM hkP hkPi (g := g) hg (argsL := argsL) (rest := rest) (hlen _ hsigM) hstack hdg
  rcases hK m meth c ⟨T.setVm vm₁, locs, cells, slots⟩ { g with stack := rest } (.invokevirtual index) mk (Value.ref b :: argsL).toArray X₁ hg hsize hdg hW (X₁.named hnamed) (hpre vm₁ X₁.warmed) with ⟨v, B, X', hpost, hsteps⟩ | ⟨q, B, X', hpost, hsteps⟩
  · exact Or.inl ⟨v, vm₁, B, X₁.warmed, X', hpost, fun target h => hstep₁ _ fun acts => by rw [doInvoke_state]; exact hsteps.trans h⟩
  · exact Or.inr ⟨q, vm₁, B, X₁.warmed, X', hpost, hstep₁ _ fun acts => by rw [doInvoke_state]; exact hsteps⟩
theorem vx_callS (X : Stand p l e R s m args below meth c T locs cells slots) (hexec : p.tables.exec = Jvm.exec) {own : String} {index : Nat} {y : MethodName} {bytes : ByteArray} {maxL : Nat} {ret : Option FieldType}
    (hown : s.vm.findClass own = some m.cls) (hlink : (Cond.methodLink own index y).before args s = true) (hstat : (Cond.static y).before args s = true) (hinit : (Cond.initialized y.cls).before args s = true)
    (hcode : (Cond.code y bytes maxL ret).before args s = true) (hy : y.cls ≠ "java/lang/invoke/MethodHandle" ∧ y.cls ≠ "java/lang/invoke/VarHandle")
    {W9 : Nat} {Pre : Pt → Array Value → Prop} {Post : Pt → Array Value → Option Value → Pt → Prop} {PostX : Pt → Array Value → Addr → Pt → Prop} (hK : vx_Back l R p e below s args y 3 W9 Pre Post PostX)
    {g : JFrame} (hg : g.method = m) (hsize : g.locals.size = c.maxLocals) {argsL rest : List Value} (hlen : ∀ sig, parseMethodDescriptor y.desc = some sig → argsL.length = sig.parameters.length)
    (hstack : g.stack = argsL.reverse ++ rest) (hW : 2 * g.monitorRoom + (rest.map fun v => v.category).sum ≤ W9) (hdg : decode c.code g.pc = .ok (.invokestatic index, 3))
    (hpre : ∀ vm₁, s.WarmedH vm₁ → Pre ⟨T.setVm vm₁, locs, cells, slots⟩ argsL.toArray) :
    (∃ (v : Option Value) (vm₁ : Vm) (B : Pt), s.WarmedH vm₁ ∧ Stand p l e R s m args below meth c B.U B.locs B.cells B.slots ∧ Post ⟨T.setVm vm₁, locs, cells, slots⟩ argsL.toArray v B ∧
      ∀ target, Steps p.tables e below (B.U.setTop { g with pc := g.pc + 3, stack := v.toList ++ rest }) target → Steps p.tables e below (T.setTop g) target) ∨
    (∃ (q : Addr) (vm₁ : Vm) (B : Pt), s.WarmedH vm₁ ∧ Stand p l e R s m args below meth c B.U B.locs B.cells B.slots ∧ PostX ⟨T.setVm vm₁, locs, cells, slots⟩ argsL.toArray q B ∧
      Steps p.tables e below (T.setTop g) ((B.U.setTop { g with stack := rest }).pushFrame (.throwing q))) := by
  obtain ⟨mk, hnamed⟩ := Cond.code_named hcode
  obtain ⟨methM, cM, hmethM, -, -, -, -, -, -, hsigM⟩ := Cond.code_spec hnamed hcode
  have hstatic : methM.isStatic = true := Cond.static_spec hnamed hmethM hstat
  obtain ⟨kP, hkP, -⟩ := className_of_methodNamed hnamed
  have hinitP : kP.init = .initialized := Cond.initialized_spec (findClass_of_methodNamed hnamed) hkP hinit
  obtain ⟨vm₁, X₁, hstep₁⟩ := X.invokestatic hexec hown hlink hnamed hmethM hstatic hkP hinitP hy (g := g) hg (argsL := argsL) (rest := rest) (hlen _ hsigM) hstack hdg
  rcases hK m meth c ⟨T.setVm vm₁, locs, cells, slots⟩ { g with stack := rest } (.invokestatic index) mk argsL.toArray X₁ hg hsize hdg hW (X₁.named hnamed) (hpre vm₁ X₁.warmed) with ⟨v, B, X', hpost, hsteps⟩ | ⟨q, B, X', hpost, hsteps⟩
  · exact Or.inl ⟨v, vm₁, B, X₁.warmed, X', hpost, fun target h => hstep₁ _ fun acts => by rw [doInvoke_state]; exact hsteps.trans h⟩
  · exact Or.inr ⟨q, vm₁, B, X₁.warmed, X', hpost, hstep₁ _ fun acts => by rw [doInvoke_state]; exact hsteps⟩
end Calls
theorem vx_cls {s : State} {T : State} {vm₁ : Vm} {E : String} {k : ClassId} (hW : s.WarmedH vm₁) (h : (T.setVm vm₁).vm.findClass E = some k) : s.vm.findClass E = some k := by
  have h1 : vm₁.findClass E = some k := h
  rw [hW.alike.findClass] at h1
  exact h1
/-- the method's frame g, with q thrown over it -/
def vx_W (p : Program) (l : Launch) (e : Env) (R : Room) (s : State) (m : MethodId) (args : Array Value) (below : List Frame) (meth : Method) (c : Code) (H : Heap) (locs : List Loc) (cells slots : Nat) (Q : State → Prop) (g : JFrame) (q : Addr) : Prop :=
  ∀ T : State, T.heap = H → Stand p l e R s m args below meth c T locs cells slots → ∃ t, Steps p.tables e below ((T.setTop g).pushFrame (.throwing q)) t ∧ Q t
def vx_Run (p : Program) (l : Launch) (e : Env) (R : Room) (s : State) (m : MethodId) (args : Array Value) (below : List Frame) (meth : Method) (c : Code) (H : Heap) (locs : List Loc) (cells slots mc ms : Nat) (g : JFrame) (rest : List Value) (Qa : State → Outcome → State → Prop) (XC : String → State → State → Prop) (free : Addr → Prop) : Prop :=
  ∀ T : State, T.heap = H → Stand p l e R s m args below meth c T locs cells slots →
    (∃ (v : Option Value) (st₀ t T' : State) (L : List Loc), st₀.heap = H ∧ Stand p l e R s m args below meth c T' (locs ++ L) (cells + mc) (slots + ms) ∧ (∀ q ∈ L, free q.base) ∧ T'.heap = t.heap ∧ T'.vm = t.vm ∧ Qa st₀ (.returned v) t ∧
      Goes p e below T g T' { g with pc := g.pc + 3, stack := v.toList ++ rest }) ∨
    (∃ (q : Addr) (st₀ t T' : State) (L : List Loc) (E : String) (ce : Cell), st₀.heap = H ∧ Stand p l e R s m args below meth c T' (locs ++ L) (cells + mc) (slots + ms) ∧ (∀ z ∈ L, free z.base) ∧ T'.heap = t.heap ∧ T'.vm = t.vm ∧ XC E st₀ t ∧ t.heap[q]? = some ce ∧ ce.vm = .none ∧ s.vm.findClass E = some ce.cls ∧
      Steps p.tables e below (T.setTop g) ((T'.setTop { g with stack := rest }).pushFrame (.throwing q)))
def vx_X {S : Type} (px : S → Prop) (B : String → S → State → Prop) (A : Nat → Prop) : String → State → State → Prop := fun E st t => ∃ u : S, px u ∧ B E u t ∧ va_F A st t
section Runs
variable {p : Program} {l : Launch} {e : Env} {R : Room} {s : State} {m : MethodId} {args : Array Value} {below : List Frame} {meth : Method} {c : Code} {H : Heap} {locs : List Loc} {cells slots : Nat}
variable {y : MethodName} {bytes cc : ByteArray} {maxL nL mc ms n index : Nat} {ret : Option FieldType} {ws : List Cond} {rm : Room} {Pc : Array Value → State → Prop} {Qc : Array Value → State → Outcome → State → Prop} {XC : String → State → State → Prop} {free : Addr → Prop} {Ts : List Cond} {own C : String} {b : Addr} {As rest : List Value} {g : JFrame}
theorem vx_callBack (cb : CallB R s args own index y bytes maxL ret ws rm mc ms n) (hM : vx_Met l y ws rm Pc Qc XC mc ms free) (hbl : FrameBlind Pc) : vx_Back l R p e below s args y 3 8 (PreOf R mc ms Pc) (PostOf Qc mc ms free) (vx_Post XC mc ms free) := by
  obtain ⟨hrc, hrs, hfr, hlo, hws, hcw, -, hini, -⟩ := cb
  exact vx_back (bytes := bytes) (maxL := maxL) (ret := ret) hM hbl hrc hrs hfr hlo hws hcw (fun a' U hW => word_at hW (Or.inl (by first | rfl | simp [Cond.onTables, Cond.keeps, Cond.steady])) hini)
theorem vx_runV (S : CallFix p m c cc nL s args Ts own) (hM : vx_Met l y ws rm Pc Qc XC mc ms free) (cw : CallW R s args own C index y bytes maxL ret ws rm mc ms n) (hp : PreV s H C b Pc As)
    (hg : g.method = m) (hn : As.length = n) (hsize : g.locals.size = nL) (hstack : g.stack = As.reverse ++ .ref b :: rest) (hW : 2 * g.monitorRoom + (rest.map fun v => v.category).sum ≤ 8) (hdg : decode cc g.pc = .ok (.invokevirtual index, 3)) (hf : cells + mc ≤ R.cells ∧ slots + ms ≤ R.slots) :
    vx_Run p l e R s m args below meth c H locs cells slots mc ms g rest (Qc (Value.ref b :: As).toArray) XC free := by
  have hK : vx_Back l R p e below s args y 3 8 (PreOf R mc ms Pc) (PostOf Qc mc ms free) (vx_Post XC mc ms free) := vx_callBack cw.1 hM hp.1
  obtain ⟨⟨-, -, -, -, -, -, hcode, -, hy, hlen, hl⟩, hin, hse⟩ := cw
  obtain ⟨hx, hb, hml, ho, -⟩ := S
  obtain ⟨-, ⟨cellB, hcB, hoB, hclB⟩, hPc⟩ := hp
  intro T hT X
  rcases vx_callV X hx (C := C) (bytes := bytes) (maxL := maxL) (ret := ret) ho hl hin hse hcode hy hK (by rw [hT]; exact hcB) hoB hclB hg (hsize.trans hml.symm) (argsL := As) (rest := rest) (fun sig h => hn.trans (hlen sig h)) hstack hW (by rw [hb]; exact hdg)
    (fun vm₁ hW₁ => ⟨hf.1, hf.2, hPc (T.setVm vm₁) hT hW₁⟩) with ⟨v, vm₁, ⟨U', l2, c2, s2⟩, hW₁, X', ⟨g', mk, t, L, e1, e2, hq, h1, hL, h2, h3⟩, st⟩ | ⟨q, vm₁, ⟨U', l2, c2, s2⟩, hW₁, X', ⟨g', mk, t, L, E, ce, e1, e2, hq, hce, hcv, hcl, h1, hL, h2, h3⟩, st⟩
  · dsimp only [Pt.U, Pt.locs, Pt.cells, Pt.slots] at X' e1 e2 h1 h2 h3 st
    subst h1; subst h2; subst h3
    exact Or.inl ⟨v, (T.setVm vm₁).calling g' mk (Value.ref b :: As).toArray, t, U', L, hT, X', hL, e1, e2, hq, st⟩
  · dsimp only [Pt.U, Pt.locs, Pt.cells, Pt.slots] at X' e1 e2 h1 h2 h3 st hcl
    subst h1; subst h2; subst h3
    exact Or.inr ⟨q, (T.setVm vm₁).calling g' mk (Value.ref b :: As).toArray, t, U', L, E, ce, hT, X', hL, e1, e2, hq, hce, hcv, vx_cls hW₁ hcl, st⟩
theorem vx_runS (S : CallFix p m c cc nL s args Ts own) (hM : vx_Met l y ws rm Pc Qc XC mc ms free) (cw : CallB R s args own index y bytes maxL ret ws rm mc ms n ∧ (Cond.static y).before args s = true) (hp : PreS s H Pc As)
    (hg : g.method = m) (hn : As.length = n) (hsize : g.locals.size = nL) (hstack : g.stack = As.reverse ++ rest) (hW : 2 * g.monitorRoom + (rest.map fun v => v.category).sum ≤ 8) (hdg : decode cc g.pc = .ok (.invokestatic index, 3)) (hf : cells + mc ≤ R.cells ∧ slots + ms ≤ R.slots) :
    vx_Run p l e R s m args below meth c H locs cells slots mc ms g rest (Qc As.toArray) XC free := by
  have hK : vx_Back l R p e below s args y 3 8 (PreOf R mc ms Pc) (PostOf Qc mc ms free) (vx_Post XC mc ms free) := vx_callBack cw.1 hM hp.1
  obtain ⟨⟨-, -, -, -, -, -, hcode, hini, hy, hlen, hl⟩, hstt⟩ := cw
  obtain ⟨hx, hb, hml, ho, -⟩ := S
  intro T hT X
  rcases vx_callS X hx (bytes := bytes) (maxL := maxL) (ret := ret) ho hl hstt hini hcode hy hK hg (hsize.trans hml.symm) (argsL := As) (rest := rest) (fun sig h => hn.trans (hlen sig h)) hstack hW (by rw [hb]; exact hdg)
    (fun vm₁ hW₁ => ⟨hf.1, hf.2, hp.2 (T.setVm vm₁) hT hW₁⟩) with ⟨v, vm₁, ⟨U', l2, c2, s2⟩, hW₁, X', ⟨g', mk, t, L, e1, e2, hq, h1, hL, h2, h3⟩, st⟩ | ⟨q, vm₁, ⟨U', l2, c2, s2⟩, hW₁, X', ⟨g', mk, t, L, E, ce, e1, e2, hq, hce, hcv, hcl, h1, hL, h2, h3⟩, st⟩
  · dsimp only [Pt.U, Pt.locs, Pt.cells, Pt.slots] at X' e1 e2 h1 h2 h3 st
    subst h1; subst h2; subst h3
    exact Or.inl ⟨v, (T.setVm vm₁).calling g' mk As.toArray, t, U', L, hT, X', hL, e1, e2, hq, st⟩
  · dsimp only [Pt.U, Pt.locs, Pt.cells, Pt.slots] at X' e1 e2 h1 h2 h3 st hcl
    subst h1; subst h2; subst h3
    exact Or.inr ⟨q, (T.setVm vm₁).calling g' mk As.toArray, t, U', L, E, ce, hT, X', hL, e1, e2, hq, hce, hcv, vx_cls hW₁ hcl, st⟩
end Runs
section Rows
variable {p : Program} {l : Launch} {e : Env} {R : Room} {s : State} {m : MethodId} {args : Array Value} {below : List Frame} {meth : Method} {c : Code} {H : Heap} {locs : List Loc} {cells slots : Nat} {Q : State → Prop}
variable {mc ms : Nat} {free : Addr → Prop} {A0 A1 : Nat → Prop} {H0 : Heap} {a : Array Value} {pc : Nat} {ls : Array Slot} {st0 rest : List Value}
theorem vx_keep {st₀ t T' : State} {L : List Loc} (h0 : st₀.heap = H) (e1 : T'.heap = t.heap) (hS : va_S A0 H0 H locs) (hA : ∀ q, q < H.size → A1 q → A0 q) (hf : ∀ q, free q → A0 q) (hL : ∀ q ∈ L, free q.base) (hF : va_F A1 st₀ t) :
    H.size ≤ T'.heap.size ∧ (∀ q : Nat, q < H.size → ¬ A1 q → T'.heap[q]? = H[q]?) ∧ va_S A0 H0 T'.heap (locs ++ L) := by
  obtain ⟨hz, hk⟩ := hF
  rw [h0] at hz hk
  exact ⟨by rw [e1]; exact hz, fun q h1 h2 => by rw [e1]; exact hk q h1 h2,
    ⟨Nat.le_trans hS.1 (by rw [e1]; exact hz), fun q h1 h2 => by rw [e1, hk q (Nat.lt_of_lt_of_le h1 hS.1) (fun z => h2 (hA q (Nat.lt_of_lt_of_le h1 hS.1) z))]; exact hS.2.1 q h1 h2, fun q hq => by
      rcases List.mem_append.mp hq with h | h
      · exact hS.2.2 q h
      · exact hf _ (hL q h)⟩⟩
theorem vx_calli {S SX : Type} {post : Int32 → S → Prop} {px : SX → Prop} {B : S → State → Prop} {BX : String → SX → State → Prop} {AX : Nat → Prop} (hr : vx_Run p l e R s m args below meth c H locs cells slots mc ms (F0 m pc ls st0) rest (va_Qi post B A1 a) (vx_X px BX AX) free) (hS : va_S A0 H0 H locs) (hA : ∀ q, q < H.size → A1 q → A0 q) (hf : ∀ q, free q → A0 q) (hAX : ∀ q, q < H.size → AX q → A0 q)
    (kx : ∀ (E : String) (ce : Cell) (q9 : Addr) (u : SX) (t : State) (H1 : Heap) (locs1 : List Loc), t.heap = H1 → s.vm.Alike t.vm → px u → BX E u t → H.size ≤ H1.size → (∀ q : Nat, q < H.size → ¬ AX q → H1[q]? = H[q]?) → va_S A0 H0 H1 locs1 → H1[q9]? = some ce → ce.vm = .none → s.vm.findClass E = some ce.cls → vx_W p l e R s m args below meth c H1 locs1 (cells + mc) (slots + ms) Q (F0 m pc ls rest) q9)
    (kk : ∀ (r : Int32) (u : S) (t : State) (H1 : Heap) (locs1 : List Loc), t.heap = H1 → s.vm.Alike t.vm → post r u → B u t → H.size ≤ H1.size → (∀ q : Nat, q < H.size → ¬ A1 q → H1[q]? = H[q]?) → va_S A0 H0 H1 locs1 → W p l e R s m args below meth c H1 locs1 (cells + mc) (slots + ms) Q (F0 m (pc + 3) ls (.int r :: rest))) : W p l e R s m args below meth c H locs cells slots Q (F0 m pc ls st0) := by
  intro T hT X
  rcases hr T hT X with ⟨v, st₀, t, T', L, h0, X', hL, e1, e2, ⟨⟨r, u, hv, hp, hb⟩, hF⟩, st⟩ | ⟨q, st₀, t, T', L, E, ce, h0, X', hL, e1, e2, ⟨u, hp, hb, hF⟩, hce, hcv, hcl, st⟩
  · cases hv
    obtain ⟨k1, k2, k3⟩ := vx_keep h0 e1 hS hA hf hL hF
    obtain ⟨t2, a1, b1⟩ := kk r u t T'.heap (locs ++ L) e1.symm (by rw [← e2]; exact X'.warmed.alike) hp hb k1 k2 k3 T' rfl X'
    exact ⟨t2, st t2 a1, b1⟩
  · obtain ⟨k1, k2, k3⟩ := vx_keep h0 e1 hS hAX hf hL hF
    obtain ⟨t2, a1, b1⟩ := kx E ce q u t T'.heap (locs ++ L) e1.symm (by rw [← e2]; exact X'.warmed.alike) hp hb k1 k2 k3 (by rw [e1]; exact hce) hcv hcl T' rfl X'
    exact ⟨t2, st.trans a1, b1⟩
theorem vx_calll {S SX : Type} {post : Int64 → S → Prop} {px : SX → Prop} {B : S → State → Prop} {BX : String → SX → State → Prop} {AX : Nat → Prop} (hr : vx_Run p l e R s m args below meth c H locs cells slots mc ms (F0 m pc ls st0) rest (va_Ql post B A1 a) (vx_X px BX AX) free) (hS : va_S A0 H0 H locs) (hA : ∀ q, q < H.size → A1 q → A0 q) (hf : ∀ q, free q → A0 q) (hAX : ∀ q, q < H.size → AX q → A0 q)
    (kx : ∀ (E : String) (ce : Cell) (q9 : Addr) (u : SX) (t : State) (H1 : Heap) (locs1 : List Loc), t.heap = H1 → s.vm.Alike t.vm → px u → BX E u t → H.size ≤ H1.size → (∀ q : Nat, q < H.size → ¬ AX q → H1[q]? = H[q]?) → va_S A0 H0 H1 locs1 → H1[q9]? = some ce → ce.vm = .none → s.vm.findClass E = some ce.cls → vx_W p l e R s m args below meth c H1 locs1 (cells + mc) (slots + ms) Q (F0 m pc ls rest) q9)
    (kk : ∀ (r : Int64) (u : S) (t : State) (H1 : Heap) (locs1 : List Loc), t.heap = H1 → s.vm.Alike t.vm → post r u → B u t → H.size ≤ H1.size → (∀ q : Nat, q < H.size → ¬ A1 q → H1[q]? = H[q]?) → va_S A0 H0 H1 locs1 → W p l e R s m args below meth c H1 locs1 (cells + mc) (slots + ms) Q (F0 m (pc + 3) ls (.long r :: rest))) : W p l e R s m args below meth c H locs cells slots Q (F0 m pc ls st0) := by
  intro T hT X
  rcases hr T hT X with ⟨v, st₀, t, T', L, h0, X', hL, e1, e2, ⟨⟨r, u, hv, hp, hb⟩, hF⟩, st⟩ | ⟨q, st₀, t, T', L, E, ce, h0, X', hL, e1, e2, ⟨u, hp, hb, hF⟩, hce, hcv, hcl, st⟩
  · cases hv
    obtain ⟨k1, k2, k3⟩ := vx_keep h0 e1 hS hA hf hL hF
    obtain ⟨t2, a1, b1⟩ := kk r u t T'.heap (locs ++ L) e1.symm (by rw [← e2]; exact X'.warmed.alike) hp hb k1 k2 k3 T' rfl X'
    exact ⟨t2, st t2 a1, b1⟩
  · obtain ⟨k1, k2, k3⟩ := vx_keep h0 e1 hS hAX hf hL hF
    obtain ⟨t2, a1, b1⟩ := kx E ce q u t T'.heap (locs ++ L) e1.symm (by rw [← e2]; exact X'.warmed.alike) hp hb k1 k2 k3 (by rw [e1]; exact hce) hcv hcl T' rfl X'
    exact ⟨t2, st.trans a1, b1⟩
theorem vx_callf {S SX : Type} {post : UInt32 → S → Prop} {px : SX → Prop} {B : S → State → Prop} {BX : String → SX → State → Prop} {AX : Nat → Prop} (hr : vx_Run p l e R s m args below meth c H locs cells slots mc ms (F0 m pc ls st0) rest (va_Qf post B A1 a) (vx_X px BX AX) free) (hS : va_S A0 H0 H locs) (hA : ∀ q, q < H.size → A1 q → A0 q) (hf : ∀ q, free q → A0 q) (hAX : ∀ q, q < H.size → AX q → A0 q)
    (kx : ∀ (E : String) (ce : Cell) (q9 : Addr) (u : SX) (t : State) (H1 : Heap) (locs1 : List Loc), t.heap = H1 → s.vm.Alike t.vm → px u → BX E u t → H.size ≤ H1.size → (∀ q : Nat, q < H.size → ¬ AX q → H1[q]? = H[q]?) → va_S A0 H0 H1 locs1 → H1[q9]? = some ce → ce.vm = .none → s.vm.findClass E = some ce.cls → vx_W p l e R s m args below meth c H1 locs1 (cells + mc) (slots + ms) Q (F0 m pc ls rest) q9)
    (kk : ∀ (r : UInt32) (u : S) (t : State) (H1 : Heap) (locs1 : List Loc), t.heap = H1 → s.vm.Alike t.vm → post r u → B u t → H.size ≤ H1.size → (∀ q : Nat, q < H.size → ¬ A1 q → H1[q]? = H[q]?) → va_S A0 H0 H1 locs1 → W p l e R s m args below meth c H1 locs1 (cells + mc) (slots + ms) Q (F0 m (pc + 3) ls (.float r :: rest))) : W p l e R s m args below meth c H locs cells slots Q (F0 m pc ls st0) := by
  intro T hT X
  rcases hr T hT X with ⟨v, st₀, t, T', L, h0, X', hL, e1, e2, ⟨⟨r, u, hv, hp, hb⟩, hF⟩, st⟩ | ⟨q, st₀, t, T', L, E, ce, h0, X', hL, e1, e2, ⟨u, hp, hb, hF⟩, hce, hcv, hcl, st⟩
  · cases hv
    obtain ⟨k1, k2, k3⟩ := vx_keep h0 e1 hS hA hf hL hF
    obtain ⟨t2, a1, b1⟩ := kk r u t T'.heap (locs ++ L) e1.symm (by rw [← e2]; exact X'.warmed.alike) hp hb k1 k2 k3 T' rfl X'
    exact ⟨t2, st t2 a1, b1⟩
  · obtain ⟨k1, k2, k3⟩ := vx_keep h0 e1 hS hAX hf hL hF
    obtain ⟨t2, a1, b1⟩ := kx E ce q u t T'.heap (locs ++ L) e1.symm (by rw [← e2]; exact X'.warmed.alike) hp hb k1 k2 k3 (by rw [e1]; exact hce) hcv hcl T' rfl X'
    exact ⟨t2, st.trans a1, b1⟩
theorem vx_calld {S SX : Type} {post : UInt64 → S → Prop} {px : SX → Prop} {B : S → State → Prop} {BX : String → SX → State → Prop} {AX : Nat → Prop} (hr : vx_Run p l e R s m args below meth c H locs cells slots mc ms (F0 m pc ls st0) rest (va_Qd post B A1 a) (vx_X px BX AX) free) (hS : va_S A0 H0 H locs) (hA : ∀ q, q < H.size → A1 q → A0 q) (hf : ∀ q, free q → A0 q) (hAX : ∀ q, q < H.size → AX q → A0 q)
    (kx : ∀ (E : String) (ce : Cell) (q9 : Addr) (u : SX) (t : State) (H1 : Heap) (locs1 : List Loc), t.heap = H1 → s.vm.Alike t.vm → px u → BX E u t → H.size ≤ H1.size → (∀ q : Nat, q < H.size → ¬ AX q → H1[q]? = H[q]?) → va_S A0 H0 H1 locs1 → H1[q9]? = some ce → ce.vm = .none → s.vm.findClass E = some ce.cls → vx_W p l e R s m args below meth c H1 locs1 (cells + mc) (slots + ms) Q (F0 m pc ls rest) q9)
    (kk : ∀ (r : UInt64) (u : S) (t : State) (H1 : Heap) (locs1 : List Loc), t.heap = H1 → s.vm.Alike t.vm → post r u → B u t → H.size ≤ H1.size → (∀ q : Nat, q < H.size → ¬ A1 q → H1[q]? = H[q]?) → va_S A0 H0 H1 locs1 → W p l e R s m args below meth c H1 locs1 (cells + mc) (slots + ms) Q (F0 m (pc + 3) ls (.double r :: rest))) : W p l e R s m args below meth c H locs cells slots Q (F0 m pc ls st0) := by
  intro T hT X
  rcases hr T hT X with ⟨v, st₀, t, T', L, h0, X', hL, e1, e2, ⟨⟨r, u, hv, hp, hb⟩, hF⟩, st⟩ | ⟨q, st₀, t, T', L, E, ce, h0, X', hL, e1, e2, ⟨u, hp, hb, hF⟩, hce, hcv, hcl, st⟩
  · cases hv
    obtain ⟨k1, k2, k3⟩ := vx_keep h0 e1 hS hA hf hL hF
    obtain ⟨t2, a1, b1⟩ := kk r u t T'.heap (locs ++ L) e1.symm (by rw [← e2]; exact X'.warmed.alike) hp hb k1 k2 k3 T' rfl X'
    exact ⟨t2, st t2 a1, b1⟩
  · obtain ⟨k1, k2, k3⟩ := vx_keep h0 e1 hS hAX hf hL hF
    obtain ⟨t2, a1, b1⟩ := kx E ce q u t T'.heap (locs ++ L) e1.symm (by rw [← e2]; exact X'.warmed.alike) hp hb k1 k2 k3 (by rw [e1]; exact hce) hcv hcl T' rfl X'
    exact ⟨t2, st.trans a1, b1⟩
theorem vx_callv {S SX : Type} {post : S → Prop} {px : SX → Prop} {B : S → State → Prop} {BX : String → SX → State → Prop} {AX : Nat → Prop} (hr : vx_Run p l e R s m args below meth c H locs cells slots mc ms (F0 m pc ls st0) rest (va_Qv post B A1 a) (vx_X px BX AX) free) (hS : va_S A0 H0 H locs) (hA : ∀ q, q < H.size → A1 q → A0 q) (hf : ∀ q, free q → A0 q) (hAX : ∀ q, q < H.size → AX q → A0 q)
    (kx : ∀ (E : String) (ce : Cell) (q9 : Addr) (u : SX) (t : State) (H1 : Heap) (locs1 : List Loc), t.heap = H1 → s.vm.Alike t.vm → px u → BX E u t → H.size ≤ H1.size → (∀ q : Nat, q < H.size → ¬ AX q → H1[q]? = H[q]?) → va_S A0 H0 H1 locs1 → H1[q9]? = some ce → ce.vm = .none → s.vm.findClass E = some ce.cls → vx_W p l e R s m args below meth c H1 locs1 (cells + mc) (slots + ms) Q (F0 m pc ls rest) q9)
    (kk : ∀ (u : S) (t : State) (H1 : Heap) (locs1 : List Loc), t.heap = H1 → s.vm.Alike t.vm → post u → B u t → H.size ≤ H1.size → (∀ q : Nat, q < H.size → ¬ A1 q → H1[q]? = H[q]?) → va_S A0 H0 H1 locs1 → W p l e R s m args below meth c H1 locs1 (cells + mc) (slots + ms) Q (F0 m (pc + 3) ls (rest))) : W p l e R s m args below meth c H locs cells slots Q (F0 m pc ls st0) := by
  intro T hT X
  rcases hr T hT X with ⟨v, st₀, t, T', L, h0, X', hL, e1, e2, ⟨⟨u, hv, hp, hb⟩, hF⟩, st⟩ | ⟨q, st₀, t, T', L, E, ce, h0, X', hL, e1, e2, ⟨u, hp, hb, hF⟩, hce, hcv, hcl, st⟩
  · cases hv
    obtain ⟨k1, k2, k3⟩ := vx_keep h0 e1 hS hA hf hL hF
    obtain ⟨t2, a1, b1⟩ := kk u t T'.heap (locs ++ L) e1.symm (by rw [← e2]; exact X'.warmed.alike) hp hb k1 k2 k3 T' rfl X'
    exact ⟨t2, st t2 a1, b1⟩
  · obtain ⟨k1, k2, k3⟩ := vx_keep h0 e1 hS hAX hf hL hF
    obtain ⟨t2, a1, b1⟩ := kx E ce q u t T'.heap (locs ++ L) e1.symm (by rw [← e2]; exact X'.warmed.alike) hp hb k1 k2 k3 (by rw [e1]; exact hce) hcv hcl T' rfl X'
    exact ⟨t2, st.trans a1, b1⟩
/-- caught by the row x of this method's table; the rows ahead don't take it -/
theorem vx_catch {own name : String} {E : String} {ce : Cell} {q : Addr} (hown : s.vm.findClass own = some m.cls) (pre : List ExceptionTableEntry) (x : ExceptionTableEntry) (suf : List ExceptionTableEntry) (hsplit : c.exceptionTable.toList = pre ++ x :: suf)
    (hpass : ∀ z ∈ pre, covers z pc = false ∨ (z.catchType ≠ 0 ∧ ∃ nm : String, (Cond.classLink own z.catchType nm).before args s = true ∧ va_Nc E nm s)) (hx : covers x pc = true) (h0 : x.catchType ≠ 0)
    (hlink : (Cond.classLink own x.catchType name).before args s = true) (hcast : (Cond.castable E name).before args s = true) (hcell : H[q]? = some ce) (hv : ce.vm = .none) (hcl : s.vm.findClass E = some ce.cls)
    (kk : W p l e R s m args below meth c H locs cells slots Q (F0 m x.handlerPc ls [.ref q])) : vx_W p l e R s m args below meth c H locs cells slots Q (F0 m pc ls rest) q := by
  intro T hT X
  have hpl : e.platform.magicAccessors = ({} : Platform).magicAccessors := by rw [X.admits.platform]
  obtain ⟨c3, c4, hc3, hc4, hasg⟩ := Cond.castable_spec hcast
  cases Option.some.inj (hc3.symm.trans hcl)
  obtain ⟨c5, hc5, hcl5⟩ := Cond.classLink_spec hown hlink e.platform hpl
  cases Option.some.inj (hc4.symm.trans hc5)
  obtain ⟨vm', X', st⟩ := X.thenCaughtThrough q (g := F0 m pc ls rest) rfl (Steps.refl _) (by rw [hT]; exact hcell) (by rw [hv]; rfl) (by obtain ⟨k9, h9, -⟩ := Vm.findClass_spec hcl; exact ⟨k9, h9⟩) pre x suf hsplit
    (fun z hz => by
      rcases hpass z hz with h | ⟨hz0, nm, hl1, hn1⟩
      · exact Or.inl h
      · obtain ⟨c6, hc6, hcl6⟩ := Cond.classLink_spec hown hl1 e.platform hpl
        obtain ⟨a8, b8, h1, h2, h3⟩ := hn1
        cases Option.some.inj (h1.symm.trans hcl)
        cases Option.some.inj (h2.symm.trans hc6)
        exact Or.inr ⟨hz0, _, hcl6, h3⟩) hx (Or.inr ⟨h0, c4, hcl5, hasg⟩)
  obtain ⟨t, a1, b1⟩ := kk (T.setVm vm') hT X'
  exact ⟨t, st.trans a1, b1⟩
end Rows
section Ends
variable {p : Program} {l : Launch} {e : Env} {R : Room} {s : State} {m : MethodId} {args : Array Value} {below : List Frame} {meth : Method} {c : Code} {H : Heap} {locs : List Loc} {cells slots : Nat} {Q : State → Prop}
variable {mc ms : Nat} {free : Addr → Prop} {A0 A1 : Nat → Prop} {H0 : Heap} {a : Array Value} {ls : Array Slot} {st0 rest : List Value}
variable {Qc : Array Value → State → Outcome → State → Prop} {XC : String → State → State → Prop}
/-- what a body that may throw owes at its end -/
def vx_MQ (below : List Frame) (Qc : Array Value → State → Outcome → State → Prop) (XC : String → State → State → Prop) (a : Array Value) (s : State) (mc ms : Nat) (free : Addr → Prop) : State → Prop := fun t =>
  ∃ o, t.status = .running ∧ Ended t below o ∧ vx_Q Qc XC mc ms free a s o t
theorem vx_ret {g : JFrame} {mc ms : Nat} (k : W p l e R s m args below meth c H locs cells slots (MQ below Qc args s mc ms free) g) : W p l e R s m args below meth c H locs cells slots (vx_MQ below Qc XC args s mc ms free) g := by
  intro T hT X
  obtain ⟨t, a1, o, b1, b2, b3, b4⟩ := k T hT X
  exact ⟨t, a1, o, b1, b2, Or.inl ⟨b3, b4⟩⟩
/-- not caught here: it goes on to the caller -/
theorem vx_widen {g : JFrame} {q : Addr} {k n : Nat} (h1 : cells ≤ k) (h2 : slots ≤ n) (kk : vx_W p l e R s m args below meth c H locs k n Q g q) : vx_W p l e R s m args below meth c H locs cells slots Q g q := fun T hT X => kk T hT (stand_widen X h1 h2)
theorem vx_out {pc : Nat} {E : String} {ce : Cell} {q : Addr} {mc ms : Nat} (hout : ∀ x ∈ c.exceptionTable.toList, covers x pc = false) (hlocks : meth.locks = false) (hcell : H[q]? = some ce) (hv : ce.vm = .none) (hcl : s.vm.findClass E = some ce.cls)
    (hx : ∀ t : State, t.heap = H → s.vm.Alike t.vm → XC E s t) (hf : ∀ z ∈ locs, free z.base) (hc : cells ≤ mc) (hs : slots ≤ ms) :
    vx_W p l e R s m args below meth c H locs cells slots (vx_MQ below Qc XC args s mc ms free) (F0 m pc ls rest) q := by
  intro T hT X
  obtain ⟨st1, hrun, hend, hW, hsm⟩ := X.leaveThrown q (g := F0 m pc ls rest) rfl rfl rfl hout hlocks
  have hcell9 : (T.setFrames (.throwing q :: below)).heap[q]? = some ce := by
    show T.heap[q]? = some ce
    rw [hT]; exact hcell
  exact ⟨_, st1, .threw q, hrun, hend, Or.inr ⟨q, rfl, E, ce, locs, hx _ hT hW.alike, hcell9, hv, hcl, hW, hsm.mono hc hs, hf⟩⟩
theorem vx_frame {U : State} {k n : Nat} (h : s.sameButNew ({ U with vm := s.vm } : State) locs k n) : s.heap.size ≤ U.heap.size ∧ ∀ q : Nat, q < s.heap.size → (∀ z ∈ locs, z.base ≠ q) → U.heap[q]? = s.heap[q]? := by
  obtain ⟨-, h2, -, -, -, h6⟩ := h
  refine ⟨h2, fun q hq hz => ?_⟩
  obtain ⟨c9, e1, e2, e3, e4⟩ := h6 q _ (Array.getElem?_eq_getElem hq)
  have hs : c9.slots = (s.heap[q]).slots := Array.ext_getElem? fun i => e4 i fun hm => hz _ hm rfl
  have h9 : c9 = s.heap[q] := by
    rw [hs] at e2
    exact e2
  have e5 : U.heap[q]? = some c9 := e1
  rw [e5, h9, Array.getElem?_eq_getElem hq]
/-- the words of a throw but the four that speak of the heap -/
def vx_no (w : Cond) : Bool := decide (w ≠ .isRef (.static Bundle.tN "UNASSIGNED_STACK" Bundle.steD)) && decide (w ≠ .isRef (.static Bundle.tN "SUPPRESSED_SENTINEL" Bundle.listD)) && decide (w ≠ .laysStatic Bundle.tN "UNASSIGNED_STACK" Bundle.steD) && decide (w ≠ .laysStatic Bundle.tN "SUPPRESSED_SENTINEL" Bundle.listD)
def vx_at0 (own : String) (ic : Nat) (X : String) (names : List String) : List Cond := (Bundle.ownAtoms0 own ic X names).filter vx_no
def vx_atS (own : String) (ic : Nat) (X : String) (names : List String) : List Cond := (Bundle.ownAtoms own ic X names).filter vx_no
/-- a word that the tables alone decide, or a good one -/
def vx_ot (w : Cond) : Bool := w.onTables || goodWord w
theorem vx_ot_at {args a' : Array Value} {s U : State} {w : Cond} (hW : s.WarmedH U.vm) (hvm : s.vm = U.vm) (hg : vx_ot w = true) (h : w.before args s = true) : w.before a' U = true := by
  simp only [vx_ot, Bool.or_eq_true] at hg
  rcases hg with hg | hg
  · exact va_tabs hg hvm h
  · exact word_at hW (good_of_word hg) h
/-- a list's words: the good ones out of the method's own list, the others by premises of their own -/
theorem vx_hat {args : Array Value} {s : State} {L B : List Cond} (h1 : ∀ w ∈ L.filter goodWord, w.before args s = true) (h2 : ∀ w ∈ L.filter (fun w => !goodWord w), w ∈ B) (h3 : ∀ w ∈ B, w.before args s = true) : ∀ w ∈ L, w.before args s = true := by
  intro w hw
  by_cases g : goodWord w = true
  · exact h1 w (List.mem_filter.mpr ⟨hw, g⟩)
  · refine h3 w (h2 w (List.mem_filter.mpr ⟨hw, ?_⟩))
    show (!goodWord w) = true
    cases hgw : goodWord w
    · rfl
    · exact absurd hgw g
theorem vx_c {args : Array Value} {s : State} {w : Cond} {B : List Cond} (h : w.before args s = true) (t : ∀ w ∈ B, w.before args s = true) : ∀ w' ∈ w :: B, w'.before args s = true := fun w' h' => (List.mem_cons.mp h').elim (fun e => by rw [e]; exact h) (t w')
theorem vx_n {args : Array Value} {s : State} : ∀ w ∈ ([] : List Cond), w.before args s = true := fun _ h => nomatch h
theorem vx_own {args : Array Value} {s : State} {L : List Cond} (h1 : ∀ w ∈ L.filter vx_no, w.before args s = true)
    (hU : (Cond.isRef (.static Bundle.tN "UNASSIGNED_STACK" Bundle.steD)).before args s = true) (hN : (Cond.isRef (.static Bundle.tN "SUPPRESSED_SENTINEL" Bundle.listD)).before args s = true)
    (lU : (Cond.laysStatic Bundle.tN "UNASSIGNED_STACK" Bundle.steD).before args s = true) (lN : (Cond.laysStatic Bundle.tN "SUPPRESSED_SENTINEL" Bundle.listD).before args s = true) : ∀ w ∈ L, w.before args s = true := by
  intro w hw
  by_cases e1 : w = .isRef (.static Bundle.tN "UNASSIGNED_STACK" Bundle.steD)
  · rw [e1]; exact hU
  · by_cases e2 : w = .isRef (.static Bundle.tN "SUPPRESSED_SENTINEL" Bundle.listD)
    · rw [e2]; exact hN
    · by_cases e3 : w = .laysStatic Bundle.tN "UNASSIGNED_STACK" Bundle.steD
      · rw [e3]; exact lU
      · by_cases e4 : w = .laysStatic Bundle.tN "SUPPRESSED_SENTINEL" Bundle.listD
        · rw [e4]; exact lN
        · exact h1 w (List.mem_filter.mpr ⟨hw, by unfold vx_no; rw [decide_eq_true e1, decide_eq_true e2, decide_eq_true e3, decide_eq_true e4]; rfl⟩)
/-- where a static field lies, its class's statics cell in H -/
def vx_L (C n d : String) (A : Nat → Prop) (U : State) (H : Heap) : Prop := ∃ (c : ClassId) (k : Class) (i : Nat) (f : Field) (a : Nat) (cell : Cell), U.vm.findClass C = some c ∧ U.fieldFound? C n d = some (c, k, i, f) ∧ f.isStatic = true ∧ k.statics = some a ∧ H[a]? = some cell ∧ cell.vm.isStatics = true ∧ cell.cls = c ∧ f.slot < cell.slots.size ∧ k.staticTypes[f.slot]? = some f.type ∧ ¬ A a
theorem vx_L.moved {C n d : String} {A : Nat → Prop} {u U : State} {H : Heap} (hvm : u.vm.Alike U.vm) (h : vx_L C n d A u H) : vx_L C n d A U H := by
  obtain ⟨c, k, i, f, a, cell, h1, h2, h3, h4, h5, h6, h7, h8, h9, h10⟩ := h
  obtain ⟨k', hi', he⟩ := State.fieldFound?_setVm hvm h2
  exact ⟨c, k', i, f, a, cell, by rw [hvm.findClass]; exact h1, hi', h3, by rw [he]; exact h4, h5, h6, h7, h8, by rw [he]; exact h9, h10⟩
theorem vx_L.kept {C n d : String} {A : Nat → Prop} {U : State} {H H1 : Heap} (h : vx_L C n d A U H) (hq : ∀ a : Nat, a < H.size → ¬ A a → H1[a]? = H[a]?) : vx_L C n d A U H1 := by
  obtain ⟨c, k, i, f, a, cell, h1, h2, h3, h4, h5, h6, h7, h8, h9, h10⟩ := h
  exact ⟨c, k, i, f, a, cell, h1, h2, h3, h4, by rw [hq a (Array.getElem?_eq_some_iff.mp h5).1 h10]; exact h5, h6, h7, h8, h9, h10⟩
theorem vx_L.narrow {C n d : String} {A B : Nat → Prop} {U : State} {H : Heap} (h : vx_L C n d A U H) (hAB : ∀ q, B q → A q) : vx_L C n d B U H := by
  obtain ⟨c, k, i, f, a, cell, h1, h2, h3, h4, h5, h6, h7, h8, h9, h10⟩ := h
  exact ⟨c, k, i, f, a, cell, h1, h2, h3, h4, h5, h6, h7, h8, h9, fun z => h10 (hAB _ z)⟩
theorem vx_L.word {C n d : String} {A : Nat → Prop} {s : State} {args : Array Value} (h : vx_L C n d A s s.heap) : (Cond.laysStatic C n d).before args s = true := by
  obtain ⟨c, k, i, f, a, cell, h1, h2, h3, h4, h5, h6, h7, h8, h9, -⟩ := h
  show (Cond.laysStatic C n d).holds args s none s [] = true
  exact Cond.laysStatic_of h1 h2 h3 h4 h5 h6 h7 h8 h9
/-- .. and what it holds: null or some reference -/
def vx_Zq (C n d : String) (A : Nat → Prop) (U : State) (H : Heap) : Prop := va_Zq C n d A U H ∧ vx_L C n d A U H
theorem vx_Zq.moved {C n d : String} {A : Nat → Prop} {u U : State} {H : Heap} (hvm : u.vm.Alike U.vm) (h : vx_Zq C n d A u H) : vx_Zq C n d A U H := ⟨va_Zq.moved hvm h.1, vx_L.moved hvm h.2⟩
theorem vx_Zq.kept {C n d : String} {A : Nat → Prop} {U : State} {H H1 : Heap} (h : vx_Zq C n d A U H) (hq : ∀ a : Nat, a < H.size → ¬ A a → H1[a]? = H[a]?) : vx_Zq C n d A U H1 := ⟨va_Zq.kept h.1 hq, vx_L.kept h.2 hq⟩
theorem vx_Zq.narrow {C n d : String} {A B : Nat → Prop} {U : State} {H : Heap} (h : vx_Zq C n d A U H) (hAB : ∀ q, B q → A q) : vx_Zq C n d B U H := ⟨va_Zq.narrow h.1 hAB, vx_L.narrow h.2 hAB⟩
theorem vx_Zqof {args : Array Value} {s : State} {C n d : String} {A : Nat → Prop} (hl : (Cond.laysStatic C n d).before args s = true) (hini : (Cond.initialized C).before args s = true) (h : (Cond.isRef (.static C n d)).before args s = true) (hA : ∀ a : Nat, a < s.heap.size → ¬ A a) : vx_Zq C n d A s s.heap := by
  refine ⟨va_Zqof hl hini h hA, ?_⟩
  obtain ⟨c, k, i, f, a, cell, h1, h2, h3, h4, h5, h6, h7, h8, h9⟩ := Cond.laysStatic_spec hl
  exact ⟨c, k, i, f, a, cell, h1, h2, h3, h4, h5, h6, h7, h8, h9, hA a (Array.getElem?_eq_some_iff.mp h5).1⟩
theorem vx_isRef {C n d : String} {v : Value} {A : Nat → Prop} {s : State} {args : Array Value} (h : va_Z C n d v A s s.heap) (hv : v.isRef = true) : (Cond.isRef (.static C n d)).before args s = true := by
  obtain ⟨cf, kf, fi, f, a, cell, h1, h2, h3, h4, h5, h6, h7, -⟩ := h
  have he : (Term.static C n d).eval args s none [] s = some v := by
    simp [Term.eval, State.fieldNamed?, h1, h2, h4, h5, h6, h7]
  simp only [Cond.before, Cond.holds, Cond.value, he]
  cases v <;> simp_all [Value.isRef]
theorem vx_isRefq {C n d : String} {A : Nat → Prop} {s : State} {args : Array Value} (h : va_Zq C n d A s s.heap) : (Cond.isRef (.static C n d)).before args s = true := by
  rcases h with h | ⟨t, h⟩
  · exact vx_isRef h rfl
  · exact vx_isRef h rfl
/-- the same frame, seen from here: as if the method were called anew in this heap -/
theorem vx_rebase {T : State} (X : Stand p l e R s m args below meth c T locs cells slots) {R' : Room} (hf : R'.frames ≤ R.frames) (hl : R'.locals ≤ R.locals) (hc : cells + R'.cells ≤ R.cells) (hs : slots + R'.slots ≤ R.slots) :
    Stand p l e R' ((T.setVm s.vm).setFrames (.invoking m args :: below)) m args below meth c T [] 0 0 := by
  have htop : (T.setVm s.vm).topJava?.isSome := X.here.top
  have hF : ((T.setVm s.vm).setFrames (.invoking m args :: below)).frames = .invoking m args :: below := State.frames_setFrames _ (State.cur_lt_of_top htop)
  obtain ⟨g₀, hg0⟩ := Option.isSome_iff_exists.mp htop
  obtain ⟨r, hr⟩ := State.topJava?_eq_some.mp hg0
  have hl9 : e.platform.stackLimits (T.setVm s.vm).me = e.platform.stackLimits s.me := X.limits
  have hb9 : (T.setVm s.vm).me.stackBytes = s.me.stackBytes := X.bytes
  refine ⟨X.admits, X.cas, X.clock, hF, ?_, X.hears, X.method, X.code, X.here, X.tail, X.warmed, ?_, ?_, ?_⟩
  · have h := X.room
    have hU : ((T.setVm s.vm).setFrames (.invoking m args :: below)).localsInUse = s.localsInUse := by
      rw [State.localsInUse_invoking hF (meth := meth) (c := c) X.method X.code, State.localsInUse_invoking X.frames X.method X.code]
    simp only [State.hasRoom, Bool.and_eq_true, decide_eq_true_eq] at h ⊢
    obtain ⟨⟨⟨⟨h1, h2, h3, h4, h5, h6⟩, h7⟩, h8⟩, h9⟩ := h
    rw [X.frames, List.length_cons] at h2 h3
    have q1 := X.heapSize
    have q2 := X.used
    simp only [hF, hU, List.length_cons, State.stackLimits_setFrames, State.stackBytes_setFrames, hl9, hb9]
    refine ⟨⟨⟨⟨by omega, by omega, by omega, by omega, by omega, h6⟩, ?_⟩, ?_⟩, X.book⟩
    · show T.heap.size + R'.cells ≤ e.platform.maxCells
      omega
    · show T.slotsUsed + R'.slots ≤ e.platform.maxSlots
      omega
  · rw [State.stackLimits_setFrames]; rfl
  · rw [State.stackBytes_setFrames]; rfl
  · refine ⟨?_, Nat.le_refl _, Nat.le_refl _, ?_, ?_, fun a c9 h9 => ⟨c9, h9, rfl, rfl, fun _ _ => rfl⟩⟩
    · obtain ⟨t, ht, -⟩ := State.frames_cons hr
      show T.setVm s.vm = { ((T.setVm s.vm).setFrames (.invoking m args :: below)).setFrames (T.setVm s.vm).frames with heap := T.heap, slotsUsed := T.slotsUsed }
      rw [State.setFrames_setFrames, State.setFrames_self ht]
      rfl
    · show T.slotsUsed = T.slotsUsed + ((T.heap.toList.drop T.heap.size).map (·.slots.size)).sum
      rw [List.drop_eq_nil_of_le (Nat.le_of_eq Array.length_toList)]
      rfl
    · show ((T.heap.toList.drop T.heap.size).map (·.slots.size)).sum ≤ 0
      rw [List.drop_eq_nil_of_le (Nat.le_of_eq Array.length_toList)]
      exact Nat.le_refl _
/-- 'throw new E()': new; dup; invokespecial; athrow -/
theorem vx_throw0 {cc : ByteArray} {pc : Nat} (hexec : p.tables.exec = Jvm.exec) (hb : c.code = cc) (hl : l.stackTraces = false) {own cls : String} {names : List String} {ik ic mc ms : Nat} {A : Nat → Prop}
    (hown : s.vm.findClass own = some m.cls) (hcls : Bundle.fit cls = true) (hnames : ∀ n ∈ names, Bundle.fit n = true)
    (hk : (Cond.classLink own ik cls).before args s = true) (hini : (Cond.initialized cls).before args s = true) (hat : ∀ w ∈ vx_at0 own ic cls names, w.before args s = true)
    (hgood : ∀ w ∈ Cond.classLink own ik cls :: Cond.initialized cls :: vx_at0 own ic cls names, vx_ot w = true)
    (hU : vx_Zq Bundle.tN "UNASSIGNED_STACK" Bundle.steD A s s.heap) (hN : vx_Zq Bundle.tN "SUPPRESSED_SENTINEL" Bundle.listD A s s.heap) (hS : va_S A s.heap H locs) (hsize : ls.size = c.maxLocals)
    (d0 : decode cc pc = .ok (.new ik, 3)) (d3 : decode cc (pc + 3) = .ok (.dup, 1)) (d4 : decode cc (pc + 4) = .ok (.invokespecial ic, 3)) (d7 : decode cc (pc + 7) = .ok (.athrow, 1))
    (hout : ∀ x ∈ c.exceptionTable.toList, covers x (pc + 7) = false)
    (hRframes : names.length + 3 < R.frames) (hRlocals : (rest.map fun v => v.category).sum + (13 * (names.length + 1) + 42) ≤ R.locals) (hRcells : cells + 1 ≤ R.cells) (hRslots : slots + 6 ≤ R.slots) (hlocks : meth.locks = false)
    (hx : ∀ t : State, s.vm.Alike t.vm → H.size ≤ t.heap.size → (∀ q : Nat, q < H.size → t.heap[q]? = H[q]?) → XC cls s t)
    (hf : ∀ z ∈ locs, free z.base) (hc : cells + 1 ≤ mc) (hs : slots + 6 ≤ ms) :
    W p l e R s m args below meth c H locs cells slots (vx_MQ below Qc XC args s mc ms free) (F0 m pc ls rest) := by
  intro T hT X
  have htr : e.platform.stackTraces = false := (show e.platform.stackTraces = l.stackTraces by rw [X.admits.platform]).trans hl
  have Y := vx_rebase X (R' := { frames := R.frames, locals := R.locals, cells := 1, slots := 6 }) (Nat.le_refl _) (Nat.le_refl _) hRcells hRslots
  obtain ⟨s', hA⟩ : ∃ z, z = (T.setVm s.vm).setFrames (.invoking m args :: below) := ⟨_, rfl⟩
  rw [← hA] at Y
  have hvm : s'.vm = s.vm := by rw [hA]; rfl
  have hhp : s'.heap = H := by rw [hA]; exact hT
  have hW0 : s.WarmedH s'.vm := by rw [hvm]; exact State.WarmedH.refl s
  have hat' : ∀ w ∈ vx_at0 own ic cls names, w.before args s' = true := fun w hw => vx_ot_at hW0 hvm.symm (hgood w (List.mem_cons_of_mem _ (List.mem_cons_of_mem _ hw))) (hat w hw)
  have hk' : (Cond.classLink own ik cls).before args s' = true := vx_ot_at hW0 hvm.symm (hgood _ List.mem_cons_self) hk
  have hini' : (Cond.initialized cls).before args s' = true := vx_ot_at hW0 hvm.symm (hgood _ (List.mem_cons_of_mem _ List.mem_cons_self)) hini
  have hU' : vx_Zq Bundle.tN "UNASSIGNED_STACK" Bundle.steD A s' s'.heap := by rw [hhp]; exact vx_Zq.moved hW0.alike (hU.kept hS.2.1)
  have hN' : vx_Zq Bundle.tN "SUPPRESSED_SENTINEL" Bundle.listD A s' s'.heap := by rw [hhp]; exact vx_Zq.moved hW0.alike (hN.kept hS.2.1)
  have h : ∀ w ∈ Bundle.ownAtoms0 own ic cls names, w.before args s' = true := vx_own hat' (vx_isRefq hU'.1) (vx_isRefq hN'.1) hU'.2.word hN'.2.word
  have hown' : s'.vm.findClass own = some m.cls := by rw [hvm]; exact hown
  have hins : (Cond.instantiable cls 6).before args s' = true := h _ (by simp [Bundle.ownAtoms0])
  obtain ⟨vm₁, cX, kX, hfX, hkX, -, -, X₁, st1⟩ := Y.newCold hexec (own := own) (C := cls) (index := ik) (n := 6) hown' hk' hins hini'
    (g := F0 m pc ls rest) rfl (by rw [hb]; exact d0) (Nat.le_refl _) (Nat.le_refl _)
  generalize hT1 : (T.setVm vm₁).pushCell { cls := cX, slots := kX.instanceTypes.map defaultValue, vm := .none } = T1 at X₁ st1
  have hcat : (Value.ref T.heap.size).category = 1 := rfl
  have hcellA : T1.heap[T.heap.size]? = some (freshCell cX kX) := by rw [← hT1]; exact State.heap_pushCell_size _ _
  have d3' : decode c.code (pc + 3) = .ok (.dup, 1) := by rw [hb]; exact d3
  obtain ⟨U, hsteps, hrun, hend, hW, hsame, ce, hce, hO⟩ := X₁.ctorThrow0 hexec htr (own := own) (cls := cls) (names := names) (ic := ic) hown' hcls hnames h (fun x hx => nomatch hx) hfX hkX hcellA (by rw [hhp, hT]; exact Nat.le_refl _)
    (g := { method := m, pc := pc + 4, locals := ls, stack := .ref T.heap.size :: .ref T.heap.size :: rest, locked := none }) rfl hsize rfl rfl (rest := rest) rfl
    (by rw [hb]; exact d4) (by rw [hb]; exact d7) hout hRframes (by simp only [List.map_cons, List.sum_cons, hcat]; omega) hlocks
  obtain ⟨f1, f2⟩ := vx_frame hsame
  rw [hhp] at f1 f2
  have hWs : s.WarmedH U.vm := State.WarmedH.trans hW0 hW
  have hcl : s.vm.findClass cls = some ce.cls := by
    have h9 := hO.cls
    rw [hvm] at h9
    exact h9
  have hall : s.sameButNew ({ U with vm := s.vm } : State) locs mc ms := by
    subst hA
    obtain ⟨e1, e2⟩ := hsame
    rw [State.setFrames_setFrames] at e1
    have h2 : (T.setVm s.vm).sameButNew ({ U with vm := s.vm } : State) [] (0 + 1) (0 + 6) := ⟨e1, e2⟩
    have h3 := X.same.trans h2
    rw [List.append_nil] at h3
    exact h3.mono hc hs
  refine ⟨U, ?_, .threw T.heap.size, hrun, hend, Or.inr ⟨T.heap.size, rfl, cls, ce, locs, hx U hWs.alike f1 (fun q hq => f2 q hq (fun z hz => nomatch hz)), hce, hO.vm, hcl, hWs, hall, hf⟩⟩
  refine st1 _ ?_
  show Steps p.tables e below (T1.setTop { method := m, pc := pc + 3, locals := ls, stack := .ref T.heap.size :: rest, locked := none }) _
  jvm_step X₁.here [X₁.here.top, hexec, d3', Value.category]
  exact hsteps
/-- 'throw new E("text")': new; dup; ldc; invokespecial; athrow -/
theorem vx_throwS {cc : ByteArray} {pc : Nat} (hexec : p.tables.exec = Jvm.exec) (hb : c.code = cc) (hl : l.stackTraces = false) {own cls text : String} {names : List String} {ik is ic mc ms sa : Nat} {A : Nat → Prop}
    (hown : s.vm.findClass own = some m.cls) (hcls : Bundle.fit cls = true) (hnames : ∀ n ∈ names, Bundle.fit n = true)
    (hk : (Cond.classLink own ik cls).before args s = true) (hini : (Cond.initialized cls).before args s = true) (hstr : vk_R own is text sa s) (hat : ∀ w ∈ vx_atS own ic cls names, w.before args s = true)
    (hgood : ∀ w ∈ Cond.classLink own ik cls :: Cond.initialized cls :: vx_atS own ic cls names, vx_ot w = true)
    (hU : vx_Zq Bundle.tN "UNASSIGNED_STACK" Bundle.steD A s s.heap) (hN : vx_Zq Bundle.tN "SUPPRESSED_SENTINEL" Bundle.listD A s s.heap) (hS : va_S A s.heap H locs) (hsize : ls.size = c.maxLocals)
    (d0 : decode cc pc = .ok (.new ik, 3)) (d3 : decode cc (pc + 3) = .ok (.dup, 1)) (d4 : decode cc (pc + 4) = .ok (.ldc is, 2)) (d6 : decode cc (pc + 6) = .ok (.invokespecial ic, 3)) (d9 : decode cc (pc + 9) = .ok (.athrow, 1))
    (hout : ∀ x ∈ c.exceptionTable.toList, covers x (pc + 9) = false)
    (hRframes : names.length + 3 < R.frames) (hRlocals : (rest.map fun v => v.category).sum + (13 * (names.length + 1) + 43) ≤ R.locals) (hRcells : cells + 1 ≤ R.cells) (hRslots : slots + 6 ≤ R.slots) (hlocks : meth.locks = false)
    (hx : ∀ t : State, s.vm.Alike t.vm → H.size ≤ t.heap.size → (∀ q : Nat, q < H.size → t.heap[q]? = H[q]?) → XC cls s t)
    (hf : ∀ z ∈ locs, free z.base) (hc : cells + 1 ≤ mc) (hs : slots + 6 ≤ ms) :
    W p l e R s m args below meth c H locs cells slots (vx_MQ below Qc XC args s mc ms free) (F0 m pc ls rest) := by
  intro T hT X
  have htr : e.platform.stackTraces = false := (show e.platform.stackTraces = l.stackTraces by rw [X.admits.platform]).trans hl
  have Y := vx_rebase X (R' := { frames := R.frames, locals := R.locals, cells := 1, slots := 6 }) (Nat.le_refl _) (Nat.le_refl _) hRcells hRslots
  obtain ⟨s', hA⟩ : ∃ z, z = (T.setVm s.vm).setFrames (.invoking m args :: below) := ⟨_, rfl⟩
  rw [← hA] at Y
  have hvm : s'.vm = s.vm := by rw [hA]; rfl
  have hhp : s'.heap = H := by rw [hA]; exact hT
  have hW0 : s.WarmedH s'.vm := by rw [hvm]; exact State.WarmedH.refl s
  have hat' : ∀ w ∈ vx_atS own ic cls names, w.before args s' = true := fun w hw => vx_ot_at hW0 hvm.symm (hgood w (List.mem_cons_of_mem _ (List.mem_cons_of_mem _ hw))) (hat w hw)
  have hk' : (Cond.classLink own ik cls).before args s' = true := vx_ot_at hW0 hvm.symm (hgood _ List.mem_cons_self) hk
  have hini' : (Cond.initialized cls).before args s' = true := vx_ot_at hW0 hvm.symm (hgood _ (List.mem_cons_of_mem _ List.mem_cons_self)) hini
  have hU' : vx_Zq Bundle.tN "UNASSIGNED_STACK" Bundle.steD A s' s'.heap := by rw [hhp]; exact vx_Zq.moved hW0.alike (hU.kept hS.2.1)
  have hN' : vx_Zq Bundle.tN "SUPPRESSED_SENTINEL" Bundle.listD A s' s'.heap := by rw [hhp]; exact vx_Zq.moved hW0.alike (hN.kept hS.2.1)
  have h : ∀ w ∈ Bundle.ownAtoms own ic cls names, w.before args s' = true := vx_own hat' (vx_isRefq hU'.1) (vx_isRefq hN'.1) hU'.2.word hN'.2.word
  have hown' : s'.vm.findClass own = some m.cls := by rw [hvm]; exact hown
  have hins : (Cond.instantiable cls 6).before args s' = true := h _ (by simp [Bundle.ownAtoms])
  obtain ⟨vm₁, cX, kX, hfX, hkX, -, -, X₁, st1⟩ := Y.newCold hexec (own := own) (C := cls) (index := ik) (n := 6) hown' hk' hins hini'
    (g := F0 m pc ls rest) rfl (by rw [hb]; exact d0) (Nat.le_refl _) (Nat.le_refl _)
  generalize hT1 : (T.setVm vm₁).pushCell { cls := cX, slots := kX.instanceTypes.map defaultValue, vm := .none } = T1 at X₁ st1
  have hcat : (Value.ref T.heap.size).category = 1 := rfl
  have hcellA : T1.heap[T.heap.size]? = some (freshCell cX kX) := by rw [← hT1]; exact State.heap_pushCell_size _ _
  have d3' : decode c.code (pc + 3) = .ok (.dup, 1) := by rw [hb]; exact d3
  have d4' : decode c.code (pc + 4) = .ok (.ldc is, 2) := by rw [hb]; exact d4
  have hstr' : vk_R own is text sa s' := vk_R.warm hW0 hstr
  obtain ⟨U, hsteps, hrun, hend, hW, hsame, ce, hce, hO⟩ := X₁.ctorThrowS hexec htr (own := own) (cls := cls) (names := names) (ic := ic) hown' hcls hnames h (fun x hx => nomatch hx) hfX hkX hcellA (by rw [hhp, hT]; exact Nat.le_refl _) (msg := .ref sa) rfl
    (g := { method := m, pc := pc + 6, locals := ls, stack := .ref sa :: .ref T.heap.size :: .ref T.heap.size :: rest, locked := none }) rfl hsize rfl rfl (rest := rest) rfl
    (by rw [hb]; exact d6) (by rw [hb]; exact d9) hout hRframes (by simp only [List.map_cons, List.sum_cons, hcat]; omega) hlocks
  obtain ⟨f1, f2⟩ := vx_frame hsame
  rw [hhp] at f1 f2
  have hWs : s.WarmedH U.vm := State.WarmedH.trans hW0 hW
  have hcl : s.vm.findClass cls = some ce.cls := by
    have h9 := hO.cls
    rw [hvm] at h9
    exact h9
  have hall : s.sameButNew ({ U with vm := s.vm } : State) locs mc ms := by
    subst hA
    obtain ⟨e1, e2⟩ := hsame
    rw [State.setFrames_setFrames] at e1
    have h2 : (T.setVm s.vm).sameButNew ({ U with vm := s.vm } : State) [] (0 + 1) (0 + 6) := ⟨e1, e2⟩
    have h3 := X.same.trans h2
    rw [List.append_nil] at h3
    exact h3.mono hc hs
  refine ⟨U, ?_, .threw T.heap.size, hrun, hend, Or.inr ⟨T.heap.size, rfl, cls, ce, locs, hx U hWs.alike f1 (fun q hq => f2 q hq (fun z hz => nomatch hz)), hce, hO.vm, hcl, hWs, hall, hf⟩⟩
  refine st1 _ ?_
  show Steps p.tables e below (T1.setTop { method := m, pc := pc + 3, locals := ls, stack := .ref T.heap.size :: rest, locked := none }) _
  jvm_step X₁.here [X₁.here.top, hexec, d3', Value.category]
  exact X₁.ldcString hexec (own := own) (text := text) (index := is) (a := sa) hown' hstr'.1 hstr'.2
    (g := { method := m, pc := pc + 4, locals := ls, stack := .ref T.heap.size :: .ref T.heap.size :: rest, locked := none }) rfl d4' _ hsteps
/-- 'throw new E("text")', the text by a wide index -/
theorem vx_throwSW {cc : ByteArray} {pc : Nat} (hexec : p.tables.exec = Jvm.exec) (hb : c.code = cc) (hl : l.stackTraces = false) {own cls text : String} {names : List String} {ik is ic mc ms sa : Nat} {A : Nat → Prop}
    (hown : s.vm.findClass own = some m.cls) (hcls : Bundle.fit cls = true) (hnames : ∀ n ∈ names, Bundle.fit n = true)
    (hk : (Cond.classLink own ik cls).before args s = true) (hini : (Cond.initialized cls).before args s = true) (hstr : vk_R own is text sa s) (hat : ∀ w ∈ vx_atS own ic cls names, w.before args s = true)
    (hgood : ∀ w ∈ Cond.classLink own ik cls :: Cond.initialized cls :: vx_atS own ic cls names, vx_ot w = true)
    (hU : vx_Zq Bundle.tN "UNASSIGNED_STACK" Bundle.steD A s s.heap) (hN : vx_Zq Bundle.tN "SUPPRESSED_SENTINEL" Bundle.listD A s s.heap) (hS : va_S A s.heap H locs) (hsize : ls.size = c.maxLocals)
    (d0 : decode cc pc = .ok (.new ik, 3)) (d3 : decode cc (pc + 3) = .ok (.dup, 1)) (d4 : decode cc (pc + 4) = .ok (.ldc_w is, 3)) (d7 : decode cc (pc + 7) = .ok (.invokespecial ic, 3)) (d10 : decode cc (pc + 10) = .ok (.athrow, 1))
    (hout : ∀ x ∈ c.exceptionTable.toList, covers x (pc + 10) = false)
    (hRframes : names.length + 3 < R.frames) (hRlocals : (rest.map fun v => v.category).sum + (13 * (names.length + 1) + 43) ≤ R.locals) (hRcells : cells + 1 ≤ R.cells) (hRslots : slots + 6 ≤ R.slots) (hlocks : meth.locks = false)
    (hx : ∀ t : State, s.vm.Alike t.vm → H.size ≤ t.heap.size → (∀ q : Nat, q < H.size → t.heap[q]? = H[q]?) → XC cls s t)
    (hf : ∀ z ∈ locs, free z.base) (hc : cells + 1 ≤ mc) (hs : slots + 6 ≤ ms) :
    W p l e R s m args below meth c H locs cells slots (vx_MQ below Qc XC args s mc ms free) (F0 m pc ls rest) := by
  intro T hT X
  have htr : e.platform.stackTraces = false := (show e.platform.stackTraces = l.stackTraces by rw [X.admits.platform]).trans hl
  have Y := vx_rebase X (R' := { frames := R.frames, locals := R.locals, cells := 1, slots := 6 }) (Nat.le_refl _) (Nat.le_refl _) hRcells hRslots
  obtain ⟨s', hA⟩ : ∃ z, z = (T.setVm s.vm).setFrames (.invoking m args :: below) := ⟨_, rfl⟩
  rw [← hA] at Y
  have hvm : s'.vm = s.vm := by rw [hA]; rfl
  have hhp : s'.heap = H := by rw [hA]; exact hT
  have hW0 : s.WarmedH s'.vm := by rw [hvm]; exact State.WarmedH.refl s
  have hat' : ∀ w ∈ vx_atS own ic cls names, w.before args s' = true := fun w hw => vx_ot_at hW0 hvm.symm (hgood w (List.mem_cons_of_mem _ (List.mem_cons_of_mem _ hw))) (hat w hw)
  have hk' : (Cond.classLink own ik cls).before args s' = true := vx_ot_at hW0 hvm.symm (hgood _ List.mem_cons_self) hk
  have hini' : (Cond.initialized cls).before args s' = true := vx_ot_at hW0 hvm.symm (hgood _ (List.mem_cons_of_mem _ List.mem_cons_self)) hini
  have hU' : vx_Zq Bundle.tN "UNASSIGNED_STACK" Bundle.steD A s' s'.heap := by rw [hhp]; exact vx_Zq.moved hW0.alike (hU.kept hS.2.1)
  have hN' : vx_Zq Bundle.tN "SUPPRESSED_SENTINEL" Bundle.listD A s' s'.heap := by rw [hhp]; exact vx_Zq.moved hW0.alike (hN.kept hS.2.1)
  have h : ∀ w ∈ Bundle.ownAtoms own ic cls names, w.before args s' = true := vx_own hat' (vx_isRefq hU'.1) (vx_isRefq hN'.1) hU'.2.word hN'.2.word
  have hown' : s'.vm.findClass own = some m.cls := by rw [hvm]; exact hown
  have hins : (Cond.instantiable cls 6).before args s' = true := h _ (by simp [Bundle.ownAtoms])
  obtain ⟨vm₁, cX, kX, hfX, hkX, -, -, X₁, st1⟩ := Y.newCold hexec (own := own) (C := cls) (index := ik) (n := 6) hown' hk' hins hini'
    (g := F0 m pc ls rest) rfl (by rw [hb]; exact d0) (Nat.le_refl _) (Nat.le_refl _)
  generalize hT1 : (T.setVm vm₁).pushCell { cls := cX, slots := kX.instanceTypes.map defaultValue, vm := .none } = T1 at X₁ st1
  have hcat : (Value.ref T.heap.size).category = 1 := rfl
  have hcellA : T1.heap[T.heap.size]? = some (freshCell cX kX) := by rw [← hT1]; exact State.heap_pushCell_size _ _
  have d3' : decode c.code (pc + 3) = .ok (.dup, 1) := by rw [hb]; exact d3
  have d4' : decode c.code (pc + 4) = .ok (.ldc_w is, 3) := by rw [hb]; exact d4
  have hstr' : vk_R own is text sa s' := vk_R.warm hW0 hstr
  obtain ⟨U, hsteps, hrun, hend, hW, hsame, ce, hce, hO⟩ := X₁.ctorThrowS hexec htr (own := own) (cls := cls) (names := names) (ic := ic) hown' hcls hnames h (fun x hx => nomatch hx) hfX hkX hcellA (by rw [hhp, hT]; exact Nat.le_refl _) (msg := .ref sa) rfl
    (g := { method := m, pc := pc + 7, locals := ls, stack := .ref sa :: .ref T.heap.size :: .ref T.heap.size :: rest, locked := none }) rfl hsize rfl rfl (rest := rest) rfl
    (by rw [hb]; exact d7) (by rw [hb]; exact d10) hout hRframes (by simp only [List.map_cons, List.sum_cons, hcat]; omega) hlocks
  obtain ⟨f1, f2⟩ := vx_frame hsame
  rw [hhp] at f1 f2
  have hWs : s.WarmedH U.vm := State.WarmedH.trans hW0 hW
  have hcl : s.vm.findClass cls = some ce.cls := by
    have h9 := hO.cls
    rw [hvm] at h9
    exact h9
  have hall : s.sameButNew ({ U with vm := s.vm } : State) locs mc ms := by
    subst hA
    obtain ⟨e1, e2⟩ := hsame
    rw [State.setFrames_setFrames] at e1
    have h2 : (T.setVm s.vm).sameButNew ({ U with vm := s.vm } : State) [] (0 + 1) (0 + 6) := ⟨e1, e2⟩
    have h3 := X.same.trans h2
    rw [List.append_nil] at h3
    exact h3.mono hc hs
  refine ⟨U, ?_, .threw T.heap.size, hrun, hend, Or.inr ⟨T.heap.size, rfl, cls, ce, locs, hx U hWs.alike f1 (fun q hq => f2 q hq (fun z hz => nomatch hz)), hce, hO.vm, hcl, hWs, hall, hf⟩⟩
  refine st1 _ ?_
  show Steps p.tables e below (T1.setTop { method := m, pc := pc + 3, locals := ls, stack := .ref T.heap.size :: rest, locked := none }) _
  jvm_step X₁.here [X₁.here.top, hexec, d3', Value.category]
  exact X₁.ldcStringW hexec (own := own) (text := text) (index := is) (a := sa) hown' hstr'.1 hstr'.2
    (g := { method := m, pc := pc + 4, locals := ls, stack := .ref T.heap.size :: .ref T.heap.size :: rest, locked := none }) rfl d4' _ hsteps
end Ends
section Bodies
variable {l : Launch}
theorem vx_ofW {y : MethodName} {ws ws' : List Cond} {rm : Room} {Pc : Array Value → State → Prop} {Qc : Array Value → State → Outcome → State → Prop} {XC : String → State → State → Prop} {mc ms : Nat} {free : Addr → Prop} {cc : ByteArray} {maxL : Nat} {ret : Option FieldType}
    (hy : plainName y.cls = true) (hw : ws = Cond.code y cc maxL ret :: ws')
    (body : ∀ p e s m args below meth c s₁, BodyLoose p l y (headSpec ws rm) cc maxL ret e s m args below meth c s₁ → c.maxLocals = maxL → (∀ x ∈ c.exceptionTable.toList, False) → Pc args s →
      W p l e (headSpec ws rm).room s m args below meth c s.heap [] 0 0 (vx_MQ below Qc XC args s mc ms free) (entryFrame m args maxL)) : vx_Met l y ws rm Pc Qc XC mc ms free := by
  refine MetFree.of_bodyS (code := cc) (maxLocals := maxL) (ret := ret) hy ?_ ?_
  · intro args s m h hn
    obtain ⟨meth, c, h1, h2, h3, h4, h5, h6, -, -⟩ := Cond.code_spec hn (atoms_spec (ws := ws) h _ (by rw [hw]; exact List.mem_cons_self))
    exact ⟨meth, c, h1, h2, h3, h4, h5, h6⟩
  · intro p e s m args below meth c s₁ B hml hP _
    have hh0 : s₁.heap = s.heap := by rw [B.state]; rfl
    have ht : ∀ x ∈ c.exceptionTable.toList, False := by
      obtain ⟨meth9, c9, h1, h2, -, -, -, -, h7, -⟩ := Cond.code_spec B.named (atoms_spec (ws := ws) B.pre _ (by rw [hw]; exact List.mem_cons_self))
      cases Option.some.inj (h1.symm.trans B.method)
      cases Option.some.inj (h2.symm.trans (Stand.of_body B).code)
      intro x hx
      rw [Array.isEmpty_iff.mp h7] at hx
      cases hx
    obtain ⟨t, a1, o, b1, b2, b3⟩ := body p e s m args below meth c s₁ B hml ht hP s₁ hh0 (Stand.of_body B)
    exact ⟨t, o, a1, b1, b2, b3⟩
/-- the table of a body with handlers -/
theorem vx_table {p : Program} {x y : MethodName} {S : Spec} {cc bytes : ByteArray} {maxL maxL' : Nat} {ret ret' : Option FieldType} {e : Env} {s s₁ : State} {m : MethodId} {args : Array Value} {below : List Frame} {meth : Method} {c : Code} {hh : List (Nat × Nat × Nat × Nat)}
    (B : BodyLoose p l y S cc maxL ret e s m args below meth c s₁) (h : (Cond.codeWith y bytes maxL' ret' hh).before args s = true) : c.exceptionTable.toList = tableOf hh := by
  obtain ⟨m9, meth9, c9, hn9, h1, h2, -, -, h6, -⟩ := Cond.codeWith_spec h
  cases Option.some.inj (hn9.symm.trans B.named)
  cases Option.some.inj (h1.symm.trans B.method)
  cases Option.some.inj (h2.symm.trans (Stand.of_body B).code)
  rw [← h6, table_eq]
end Bodies
end VXA
/-! ===== END ===== -/
/-! ===== BEGIN a static call of a method with an exception table ===== -/
section VXS
variable {p : Program} {l : Launch} {e : Env} {R : Room} {s : State} {m : MethodId} {args : Array Value} {below : List Frame} {meth : Method} {c : Code} {T : State} {H : Heap} {locs : List Loc} {cells slots : Nat}
abbrev vx_CSW (R : Room) (s : State) (args : Array Value) (own : String) (index : Nat) (y : MethodName) (bytes : ByteArray) (maxL : Nat) (ret : Option FieldType) (hh : List (Nat × Nat × Nat × Nat)) (ws : List Cond) (rm : Room) (mc ms n : Nat) : Prop :=
  (rm.cells = mc ∧ rm.slots = ms ∧ rm.frames + 1 ≤ R.frames ∧ 8 + (maxL + 11) + rm.locals ≤ R.locals ∧ (∀ w ∈ ws, ∀ (a' : Array Value) (U : State), s.WarmedH U.vm → w.before a' U = true) ∧ Cond.codeWith y bytes maxL ret hh ∈ ws) ∧
  (Cond.codeWith y bytes maxL ret hh).before args s = true ∧ (Cond.initialized y.cls).before args s = true ∧ (y.cls ≠ "java/lang/invoke/MethodHandle" ∧ y.cls ≠ "java/lang/invoke/VarHandle") ∧
  (∀ sig, parseMethodDescriptor y.desc = some sig → n = sig.parameters.length) ∧ (Cond.methodLink own index y).before args s = true ∧ (Cond.static y).before args s = true
theorem vx_cwSW {own : String} {index maxL mc ms : Nat} {y : MethodName} {bytes : ByteArray} {ret : Option FieldType} {hh : List (Nat × Nat × Nat × Nat)} {Ts ws ws' : List Cond} {rm : Room} (n : Nat) (ht : ∀ w ∈ Ts, w.before args s = true) (hT : GoodIn Ts (va_wsS own index y ws)) (hw : ws = Cond.codeWith y bytes maxL ret hh :: ws') (hrc : rm.cells = mc) (hrs : rm.slots = ms)
    (hd : y.cls ≠ "java/lang/invoke/MethodHandle" ∧ y.cls ≠ "java/lang/invoke/VarHandle" ∧ (parseMethodDescriptor y.desc).map (fun d => d.parameters.length) = some n) (hR : rm.frames + 1 ≤ R.frames ∧ 8 + (maxL + 11) + rm.locals ≤ R.locals) :
    vx_CSW R s args own index y bytes maxL ret hh ws rm mc ms n := by
  have ok : ∀ w ∈ va_wsS own index y ws, w.before args s = true := fun w h => ht w (hT w h).1
  have hG : GoodIn Ts ws := fun w h => hT w (by unfold va_wsS; exact List.mem_append_right _ h)
  have hc : Cond.codeWith y bytes maxL ret hh ∈ ws := by rw [hw]; exact List.mem_cons_self
  refine ⟨⟨hrc, hrs, hR.1, hR.2, pay_in ht hG, hc⟩, ht _ (hG _ hc).1, ok _ (by simp [va_wsS]), ⟨hd.1, hd.2.1⟩, fun sig h => ?_, ok _ (by simp [va_wsS]), ok _ (by simp [va_wsS])⟩
  have h2 := hd.2.2
  rw [h] at h2
  exact (Option.some.inj h2).symm
theorem vx_callSW (X : Stand p l e R s m args below meth c T locs cells slots) (hexec : p.tables.exec = Jvm.exec) {own : String} {index : Nat} {y : MethodName} {bytes : ByteArray} {maxL : Nat} {ret : Option FieldType} {hh : List (Nat × Nat × Nat × Nat)}
    (hown : s.vm.findClass own = some m.cls) (hlink : (Cond.methodLink own index y).before args s = true) (hstat : (Cond.static y).before args s = true) (hinit : (Cond.initialized y.cls).before args s = true)
    (hcode : (Cond.codeWith y bytes maxL ret hh).before args s = true) (hy : y.cls ≠ "java/lang/invoke/MethodHandle" ∧ y.cls ≠ "java/lang/invoke/VarHandle")
    {W9 : Nat} {Pre : Pt → Array Value → Prop} {Post : Pt → Array Value → Option Value → Pt → Prop} (hK : Back l R p e below s args y 3 W9 Pre Post)
    {g : JFrame} (hg : g.method = m) (hsize : g.locals.size = c.maxLocals) {argsL rest : List Value} (hlen : ∀ sig, parseMethodDescriptor y.desc = some sig → argsL.length = sig.parameters.length)
    (hstack : g.stack = argsL.reverse ++ rest) (hW : 2 * g.monitorRoom + (rest.map fun v => v.category).sum ≤ W9) (hdg : decode c.code g.pc = .ok (.invokestatic index, 3))
    (hpre : ∀ vm₁, s.WarmedH vm₁ → Pre ⟨T.setVm vm₁, locs, cells, slots⟩ argsL.toArray) :
    ∃ (v : Option Value) (vm₁ : Vm) (B : Pt), s.WarmedH vm₁ ∧ Stand p l e R s m args below meth c B.U B.locs B.cells B.slots ∧ Post ⟨T.setVm vm₁, locs, cells, slots⟩ argsL.toArray v B ∧
      ∀ target, Steps p.tables e below (B.U.setTop { g with pc := g.pc + 3, stack := v.toList ++ rest }) target → Steps p.tables e below (T.setTop g) target := by
  obtain ⟨mk, methM, cM, hnamed, hmethM, -, -, -, -, -, -, hsigM⟩ := Cond.codeWith_spec hcode
  have hstatic : methM.isStatic = true := Cond.static_spec hnamed hmethM hstat
  obtain ⟨kP, hkP, -⟩ := className_of_methodNamed hnamed
  have hinitP : kP.init = .initialized := Cond.initialized_spec (findClass_of_methodNamed hnamed) hkP hinit
  obtain ⟨vm₁, X₁, hstep₁⟩ := X.invokestatic hexec hown hlink hnamed hmethM hstatic hkP hinitP hy (g := g) hg (argsL := argsL) (rest := rest) (hlen _ hsigM) hstack hdg
  obtain ⟨v, B, X', hpost, hsteps⟩ := hK m meth c ⟨T.setVm vm₁, locs, cells, slots⟩ { g with stack := rest } (.invokestatic index) mk argsL.toArray X₁ hg hsize hdg hW (X₁.named hnamed) (hpre vm₁ X₁.warmed)
  exact ⟨v, vm₁, B, X₁.warmed, X', hpost, fun target h => hstep₁ _ fun acts => by rw [doInvoke_state]; exact hsteps.trans h⟩
theorem vx_runSW {y : MethodName} {bytes cc : ByteArray} {maxL nL mc ms n index : Nat} {ret : Option FieldType} {hh : List (Nat × Nat × Nat × Nat)} {ws : List Cond} {rm : Room} {Pc : Array Value → State → Prop} {Qc : Array Value → State → Outcome → State → Prop} {free : Addr → Prop} {Ts : List Cond} {own : String} {As rest : List Value} {g : JFrame}
    (S : CallFix p m c cc nL s args Ts own) (hM : Met l y ws rm Pc Qc mc ms free) (cw : vx_CSW R s args own index y bytes maxL ret hh ws rm mc ms n) (hp : PreS s H Pc As)
    (hg : g.method = m) (hn : As.length = n) (hsize : g.locals.size = nL) (hstack : g.stack = As.reverse ++ rest) (hW : 2 * g.monitorRoom + (rest.map fun v => v.category).sum ≤ 8) (hdg : decode cc g.pc = .ok (.invokestatic index, 3)) (hf : cells + mc ≤ R.cells ∧ slots + ms ≤ R.slots) :
    va_Run p l e R s m args below meth c H locs cells slots mc ms g rest (Qc As.toArray) (free) := by
  obtain ⟨⟨hrc, hrs, hfr, hlo, hws, hcw⟩, hcode, hini, hy, hlen, hl, hstt⟩ := cw
  have hK : Back l R p e below s args y 3 8 (PreOf R mc ms Pc) (PostOf Qc mc ms free) := va_backW (hh := hh) (bytes := bytes) (maxL := maxL) (ret := ret) hM hp.1 hrc hrs hfr hlo hws hcw (fun a' U hW => word_at hW (Or.inl (by first | rfl | simp [Cond.onTables, Cond.keeps, Cond.steady])) hini)
  obtain ⟨hx, hb, hml, ho, -⟩ := S
  intro T hT X
  obtain ⟨v, vm₁, ⟨U', l2, c2, s2⟩, hW₁, X', ⟨g', mk, t, L, e1, e2, hq, h1, hL, h2, h3⟩, st⟩ := vx_callSW X hx (hh := hh) (bytes := bytes) (maxL := maxL) (ret := ret) ho hl hstt hini hcode hy hK hg (hsize.trans hml.symm) (argsL := As) (rest := rest) (fun sig h => hn.trans (hlen sig h)) hstack hW (by rw [hb]; exact hdg)
    (fun vm₁ hW₁ => ⟨hf.1, hf.2, hp.2 (T.setVm vm₁) hT hW₁⟩)
  dsimp only [Pt.U, Pt.locs, Pt.cells, Pt.slots] at X' e1 e2 h1 h2 h3 st
  subst h1; subst h2; subst h3
  exact ⟨v, (T.setVm vm₁).calling g' mk As.toArray, t, U', L, hT, X', hL, e1, e2, hq, st⟩
/-- not caught here, past rows that name other classes: it goes on to the caller -/
theorem vx_outP {p : Program} {l : Launch} {e : Env} {R : Room} {s : State} {m : MethodId} {args : Array Value} {below : List Frame} {meth : Method} {c : Code} {H : Heap} {locs : List Loc} {cells slots : Nat} {free : Addr → Prop} {ls : Array Slot} {rest : List Value} {Qc : Array Value → State → Outcome → State → Prop} {XC : String → State → State → Prop}
    {pc : Nat} {own E : String} {ce : Cell} {q : Addr} {mc ms : Nat} (hown : s.vm.findClass own = some m.cls) (hlocks : meth.locks = false)
    (hpass : ∀ z ∈ c.exceptionTable.toList, covers z pc = false ∨ (z.catchType ≠ 0 ∧ ∃ nm : String, (Cond.classLink own z.catchType nm).before args s = true ∧ va_Nc E nm s)) (hcell : H[q]? = some ce) (hv : ce.vm = .none) (hcl : s.vm.findClass E = some ce.cls)
    (hx : ∀ t : State, t.heap = H → s.vm.Alike t.vm → XC E s t) (hf : ∀ z ∈ locs, free z.base) (hc : cells ≤ mc) (hs : slots ≤ ms) :
    vx_W p l e R s m args below meth c H locs cells slots (vx_MQ below Qc XC args s mc ms free) (F0 m pc ls rest) q := by
  intro T hT X
  have hpl : e.platform.magicAccessors = ({} : Platform).magicAccessors := by rw [X.admits.platform]
  obtain ⟨vm', hW', X', st⟩ := X.outThrough hlocks q (g := F0 m pc ls rest) rfl rfl rfl (cell := ce) (by rw [hT]; exact hcell) (by rw [hv]; rfl)
    (by obtain ⟨k9, h9, -⟩ := Vm.findClass_spec hcl; exact ⟨k9, h9⟩) (fun z hz => by
      rcases hpass z hz with h | ⟨hz0, nm, hl1, hn1⟩
      · exact Or.inl h
      · obtain ⟨c6, hc6, hcl6⟩ := Cond.classLink_spec hown hl1 e.platform hpl
        obtain ⟨a8, b8, h1, h2, h3⟩ := hn1
        cases Option.some.inj (h1.symm.trans hcl)
        cases Option.some.inj (h2.symm.trans hc6)
        exact Or.inr ⟨hz0, _, hcl6, h3⟩)
  obtain ⟨g₀, hfr⟩ := X'.frames_eq
  have hcell9 : ((T.setVm vm').setFrames (.throwing q :: below)).heap[q]? = some ce := by
    show T.heap[q]? = some ce
    rw [hT]; exact hcell
  have hend : Ended ((T.setVm vm').setFrames (.throwing q :: below)) below (.threw q) := State.frames_setFrames _ (State.cur_lt_of_frames hfr)
  refine ⟨(T.setVm vm').setFrames (.throwing q :: below), ?_, .threw q, X'.here.running, hend, Or.inr ⟨q, rfl, E, ce, locs, hx _ hT (X'.ends _).1.alike, hcell9, hv, hcl, (X'.ends _).1, (X'.ends _).2.mono hc hs, hf⟩⟩
  rw [X.pushThrowing_eq]
  exact st
/-- a thing of a world lies in the heap -/
theorem vx_lt {D : va_G} {cl : List vw_C} {ws : va_W} {H1 : Heap} (h : va_P D cl ws H1) {k : Nat} {q : Nat × va_E} (hk : ws[k]? = some q) : q.1 < H1.size := (h k q hk).lt
end VXS
/-! ===== END ===== -/
/-! ===== BEGIN methods with a table of their own: called by a name, returning or throwing ===== -/
section VXH
/-! vx_backW, vx_callVX, vx_callSX, vx_callVW, vx_runVW, vx_runVX, vx_runSX, vx_ofWH follow the same proofs as their sisters above (Free/Laws.lean, Shelf42/LK1.lean); vx_outP calls Shelf42/NT130.lean (outThrough). -/
section
variable {l : Launch} {R : Room} {p : Program} {e : Env} {below : List Frame} {s : State} {sargs : Array Value} {y : MethodName} {len W9 : Nat}
theorem vx_backW {ws : List Cond} {rm : Room} {Pc : Array Value → State → Prop} {Qc : Array Value → State → Outcome → State → Prop} {XC : String → State → State → Prop} {mc ms : Nat} {free : Addr → Prop} {bytes : ByteArray} {maxL : Nat} {ret : Option FieldType} {hh : List (Nat × Nat × Nat × Nat)}
    (hM : vx_Met l y ws rm Pc Qc XC mc ms free) (hblind : FrameBlind Pc) (hrc : rm.cells = mc) (hrs : rm.slots = ms)
    (hframes : rm.frames + 1 ≤ R.frames) (hlocals : W9 + (maxL + 11) + rm.locals ≤ R.locals)
    (hws : ∀ w ∈ ws, ∀ a' U, s.WarmedH U.vm → w.before a' U = true) (hcode : Cond.codeWith y bytes maxL ret hh ∈ ws) (hinit : ∀ a' U, s.WarmedH U.vm → (Cond.initialized y.cls).before a' U = true) :
    vx_Back l R p e below s sargs y len W9 (PreOf R mc ms Pc) (PostOf Qc mc ms free) (vx_Post XC mc ms free) := by
  intro m meth c A g ig mk a X hg hsize hdg hW hn hp
  have h1 : (headSpec ws rm).pre.before a A.U = true := atoms_intro fun w hw => hws w hw _ _ X.warmed
  have h2 : (Cond.codeWith y bytes maxL ret hh).before a A.U = true := hws _ hcode _ _ X.warmed
  have h3 : (Cond.initialized y.cls).before a A.U = true := hinit _ _ X.warmed
  have h4 : A.cells + (headSpec ws rm).room.cells ≤ R.cells := by rw [show (headSpec ws rm).room.cells = mc from hrc]; exact hp.1
  have h5 : A.slots + (headSpec ws rm).room.slots ≤ R.slots := by rw [show (headSpec ws rm).room.slots = ms from hrs]; exact hp.2.1
  have hPc : Pc a (A.U.calling g mk a) := hblind _ _ _ _ hp.2.2
  obtain ⟨U, Ls, c0, s0⟩ := A
  dsimp only [Pt.U, Pt.locs, Pt.cells, Pt.slots] at h1 h2 h3 h4 h5 X hn hPc ⊢
  obtain ⟨m9, methY, cY, hn9, hmY, hcY, -, hlY, -⟩ := Cond.codeWith_spec h2
  cases Option.some.inj (hn9.symm.trans hn)
  obtain ⟨kY, hkY, -⟩ := className_of_methodNamed hn
  have hinitY : kY.init = .initialized := Cond.initialized_spec (findClass_of_methodNamed hn) hkY h3
  have h : At U g.method c below := by rw [hg]; exact X.here
  have hlocals9 : W9 + (maxL + 11) + (headSpec ws rm).room.locals ≤ R.locals := hlocals
  have happ : (headSpec ws rm).appliesLoose y e.platform (U.calling g mk a) = true :=
    Spec.appliesLoose_calling (g := g) h hdg hn hkY hinitY
      (X.room_calling (g := g) (R' := (headSpec ws rm).room) hsize hmY hcY hframes (by rw [hlY]; omega) h4 h5) h1
  obtain ⟨mid, hmid⟩ := h.above
  have hfr : (U.setTop g).frames = (.java g :: mid) ++ below := by rw [State.frames_setTop' g h.top, hmid]; rfl
  obtain ⟨o, s₂, hsteps, -, hend, hq⟩ := Steps.callFree hM p X.admits X.cas X.clock (acts := []) hfr happ hPc trivial
  have hq' : vx_Q Qc XC mc ms free a (U.calling g mk a) o s₂ := hq
  rw [State.frames_setTop' g h.top] at hend
  obtain ⟨g₀, hg0⟩ := Option.isSome_iff_exists.mp h.top
  obtain ⟨r, hr⟩ := State.topJava?_eq_some.mp hg0
  have hr' : (({ U with heap := s₂.heap, slotsUsed := s₂.slotsUsed } : State).setVm s₂.vm).frames = .java g₀ :: r := hr
  rcases hq' with ⟨hqc, L, hfe, hL⟩ | ⟨q, rfl, E, ce, L, hx, hce, hcv, hcl, hW₂, hsm, hL⟩
  · obtain ⟨⟨v, rfl⟩, hW₂, e2, q2, q3, q4, q5, q6⟩ := id hfe
    have e3 : s₂ = ({ (U.calling g mk a).setFrames s₂.frames with heap := s₂.heap, slotsUsed := s₂.slotsUsed } : State).setVm s₂.vm := by
      have : s₂ = ({ s₂ with vm := (U.calling g mk a).vm } : State).setVm s₂.vm := rfl
      rw [e2] at this
      exact this
    obtain ⟨c₂, i₂, len₂, hc₂, hd₂, hf₂⟩ := hend
    have hW' : U.WarmedH s₂.vm := hW₂
    have hcc : c₂ = c := by
      have h1 : s₂.code? g.method = U.code? g.method := by
        rw [State.code?_eq, State.code?_eq, hW'.alike.method?]
      exact Option.some.inj (hc₂.symm.trans (h1.trans h.code))
    subst hcc
    have hlen : len₂ = len := by rw [hdg] at hd₂; cases hd₂; rfl
    subst hlen
    have hs₂ : s₂ = (({ U with heap := s₂.heap, slotsUsed := s₂.slotsUsed } : State).setVm s₂.vm).setTop { g with pc := g.pc + len₂, stack := v.toList ++ g.stack } := by
      refine e3.trans ?_
      rw [hf₂, State.calling_eq h.top, State.setFrames_setFrames, State.setTop_of_frames _ hr', hr]
      rfl
    have hsame : U.sameButNew ({ U with heap := s₂.heap, slotsUsed := s₂.slotsUsed } : State) L mc ms := by
      refine ⟨?_, q2, q3, q4, q5, q6⟩
      obtain ⟨t, ht, -⟩ := State.frames_cons hr
      show ({ U with heap := s₂.heap, slotsUsed := s₂.slotsUsed } : State) = { U.setFrames U.frames with heap := s₂.heap, slotsUsed := s₂.slotsUsed }
      rw [State.setFrames_self ht]
    subst hg
    refine Or.inl ⟨v, ⟨(({ U with heap := s₂.heap, slotsUsed := s₂.slotsUsed } : State).setVm s₂.vm), Ls ++ L, c0 + mc, s0 + ms⟩,
      ⟨X.admits, X.cas, X.clock, X.frames, X.room, X.hears, X.method, X.code, (X.here.setHeapUsed s₂.heap s₂.slotsUsed).setVm hW'.alike, X.tail, State.WarmedH.trans X.warmed hW', X.limits, X.bytes, X.same.trans (hsame.setVm s.vm)⟩,
      ⟨g, mk, s₂, L, rfl, rfl, hqc, rfl, hL, rfl, rfl⟩, ?_⟩
    show Steps p.tables e below _ ((({ U with heap := s₂.heap, slotsUsed := s₂.slotsUsed } : State).setVm s₂.vm).setTop { g with pc := g.pc + len₂, stack := v.toList ++ g.stack })
    rw [← hs₂]
    exact hsteps
  · obtain ⟨e2, q2, q3, q4, q5, q6⟩ := id hsm
    have e3 : s₂ = ({ (U.calling g mk a).setFrames s₂.frames with heap := s₂.heap, slotsUsed := s₂.slotsUsed } : State).setVm s₂.vm := by
      have : s₂ = ({ s₂ with vm := (U.calling g mk a).vm } : State).setVm s₂.vm := rfl
      rw [e2] at this
      exact this
    have hf₂ : s₂.frames = .throwing q :: .java g :: U.frames.tail := hend
    have hW' : U.WarmedH s₂.vm := hW₂
    have hs₂ : s₂ = ((({ U with heap := s₂.heap, slotsUsed := s₂.slotsUsed } : State).setVm s₂.vm).setTop g).pushFrame (.throwing q) := by
      refine e3.trans ?_
      rw [hf₂, State.calling_eq h.top, State.setFrames_setFrames, State.pushFrame, State.frames_setTop _ hr', State.setTop_of_frames _ hr', State.setFrames_setFrames, hr]
      rfl
    have hsame : U.sameButNew ({ U with heap := s₂.heap, slotsUsed := s₂.slotsUsed } : State) L mc ms := by
      refine ⟨?_, q2, q3, q4, q5, q6⟩
      obtain ⟨t, ht, -⟩ := State.frames_cons hr
      show ({ U with heap := s₂.heap, slotsUsed := s₂.slotsUsed } : State) = { U.setFrames U.frames with heap := s₂.heap, slotsUsed := s₂.slotsUsed }
      rw [State.setFrames_self ht]
    subst hg
    refine Or.inr ⟨q, ⟨(({ U with heap := s₂.heap, slotsUsed := s₂.slotsUsed } : State).setVm s₂.vm), Ls ++ L, c0 + mc, s0 + ms⟩,
      ⟨X.admits, X.cas, X.clock, X.frames, X.room, X.hears, X.method, X.code, (X.here.setHeapUsed s₂.heap s₂.slotsUsed).setVm hW'.alike, X.tail, State.WarmedH.trans X.warmed hW', X.limits, X.bytes, X.same.trans (hsame.setVm s.vm)⟩,
      ⟨g, mk, s₂, L, E, ce, rfl, rfl, hx, hce, hcv, hcl, rfl, hL, rfl, rfl⟩, ?_⟩
    show Steps p.tables e below _ (((({ U with heap := s₂.heap, slotsUsed := s₂.slotsUsed } : State).setVm s₂.vm).setTop g).pushFrame (.throwing q))
    rw [← hs₂]
    exact hsteps
end
variable {p : Program} {l : Launch} {e : Env} {R : Room} {s : State} {m : MethodId} {args : Array Value} {below : List Frame} {meth : Method} {c : Code} {T : State} {H : Heap} {locs : List Loc} {cells slots : Nat}
theorem vx_callVX (X : Stand p l e R s m args below meth c T locs cells slots) (hexec : p.tables.exec = Jvm.exec) {own C : String} {index : Nat} {y : MethodName} {bytes : ByteArray} {maxL : Nat} {ret : Option FieldType} {hh : List (Nat × Nat × Nat × Nat)}
    (hown : s.vm.findClass own = some m.cls) (hlink : (Cond.methodLink own index y).before args s = true) (hinst : (Cond.instanceMethod y).before args s = true) (hsel : (Cond.selects C y y).before args s = true)
    (hcode : (Cond.codeWith y bytes maxL ret hh).before args s = true) (hy : y.cls ≠ "java/lang/invoke/MethodHandle" ∧ y.cls ≠ "java/lang/invoke/VarHandle")
    {W9 : Nat} {Pre : Pt → Array Value → Prop} {Post : Pt → Array Value → Option Value → Pt → Prop} {PostX : Pt → Array Value → Addr → Pt → Prop} (hK : vx_Back l R p e below s args y 3 W9 Pre Post PostX)
    {b : Addr} {cellB : Cell} (hcell : T.heap[b]? = some cellB) (hobj : cellB.vm.isStatics = false) (hcls : s.vm.findClass C = some cellB.cls)
    {g : JFrame} (hg : g.method = m) (hsize : g.locals.size = c.maxLocals) {argsL rest : List Value} (hlen : ∀ sig, parseMethodDescriptor y.desc = some sig → argsL.length = sig.parameters.length)
    (hstack : g.stack = argsL.reverse ++ .ref b :: rest) (hW : 2 * g.monitorRoom + (rest.map fun v => v.category).sum ≤ W9) (hdg : decode c.code g.pc = .ok (.invokevirtual index, 3))
    (hpre : ∀ vm₁, s.WarmedH vm₁ → Pre ⟨T.setVm vm₁, locs, cells, slots⟩ (Value.ref b :: argsL).toArray) :
    (∃ (v : Option Value) (vm₁ : Vm) (B : Pt), s.WarmedH vm₁ ∧ Stand p l e R s m args below meth c B.U B.locs B.cells B.slots ∧ Post ⟨T.setVm vm₁, locs, cells, slots⟩ (Value.ref b :: argsL).toArray v B ∧
      ∀ target, Steps p.tables e below (B.U.setTop { g with pc := g.pc + 3, stack := v.toList ++ rest }) target → Steps p.tables e below (T.setTop g) target) ∨
    (∃ (q : Addr) (vm₁ : Vm) (B : Pt), s.WarmedH vm₁ ∧ Stand p l e R s m args below meth c B.U B.locs B.cells B.slots ∧ PostX ⟨T.setVm vm₁, locs, cells, slots⟩ (Value.ref b :: argsL).toArray q B ∧
      Steps p.tables e below (T.setTop g) ((B.U.setTop { g with stack := rest }).pushFrame (.throwing q))) := by
  obtain ⟨mk, methM, hnamed, hmethM, hstM, habM⟩ := Cond.instanceMethod_spec hinst
  obtain ⟨m8, methM', cM, hn8, hmethM', -, -, -, -, -, -, hsigM⟩ := Cond.codeWith_spec hcode
  cases Option.some.inj (hn8.symm.trans hnamed)
  cases hmethM.symm.trans hmethM'
  obtain ⟨c2, r2, m2, q1, q2, q3, q4, kP, hkP, hkPi⟩ := Cond.selects_spec hsel
  cases hcls.symm.trans q1
  cases (State.methodFound?_of_named hnamed hy).symm.trans q2
  cases hnamed.symm.trans q3
  have hselP : selectMethod e.platform s.vm cellB.cls mk = .method mk := by rw [Launch.admits_selectMethod X.admits]; exact q4
  obtain ⟨vm₁, X₁, hstep₁⟩ := X.invokevirtual hexec hown hlink hnamed hmethM hstM hkP hkPi hy (a := b) (cell := cellB) hcell
    (fun z h => by rw [h] at hobj; cases hobj) hselP hmethM habM hkP hkPi (g := g) hg (argsL := argsL) (rest := rest) (hlen _ hsigM) hstack hdg
  rcases hK m meth c ⟨T.setVm vm₁, locs, cells, slots⟩ { g with stack := rest } (.invokevirtual index) mk (Value.ref b :: argsL).toArray X₁ hg hsize hdg hW (X₁.named hnamed) (hpre vm₁ X₁.warmed) with ⟨v, B, X', hpost, hsteps⟩ | ⟨q, B, X', hpost, hsteps⟩
  · exact Or.inl ⟨v, vm₁, B, X₁.warmed, X', hpost, fun target h => hstep₁ _ fun acts => by rw [doInvoke_state]; exact hsteps.trans h⟩
  · exact Or.inr ⟨q, vm₁, B, X₁.warmed, X', hpost, hstep₁ _ fun acts => by rw [doInvoke_state]; exact hsteps⟩
theorem vx_callSX (X : Stand p l e R s m args below meth c T locs cells slots) (hexec : p.tables.exec = Jvm.exec) {own : String} {index : Nat} {y : MethodName} {bytes : ByteArray} {maxL : Nat} {ret : Option FieldType} {hh : List (Nat × Nat × Nat × Nat)}
    (hown : s.vm.findClass own = some m.cls) (hlink : (Cond.methodLink own index y).before args s = true) (hstat : (Cond.static y).before args s = true) (hinit : (Cond.initialized y.cls).before args s = true)
    (hcode : (Cond.codeWith y bytes maxL ret hh).before args s = true) (hy : y.cls ≠ "java/lang/invoke/MethodHandle" ∧ y.cls ≠ "java/lang/invoke/VarHandle")
    {W9 : Nat} {Pre : Pt → Array Value → Prop} {Post : Pt → Array Value → Option Value → Pt → Prop} {PostX : Pt → Array Value → Addr → Pt → Prop} (hK : vx_Back l R p e below s args y 3 W9 Pre Post PostX)
    {g : JFrame} (hg : g.method = m) (hsize : g.locals.size = c.maxLocals) {argsL rest : List Value} (hlen : ∀ sig, parseMethodDescriptor y.desc = some sig → argsL.length = sig.parameters.length)
    (hstack : g.stack = argsL.reverse ++ rest) (hW : 2 * g.monitorRoom + (rest.map fun v => v.category).sum ≤ W9) (hdg : decode c.code g.pc = .ok (.invokestatic index, 3))
    (hpre : ∀ vm₁, s.WarmedH vm₁ → Pre ⟨T.setVm vm₁, locs, cells, slots⟩ argsL.toArray) :
    (∃ (v : Option Value) (vm₁ : Vm) (B : Pt), s.WarmedH vm₁ ∧ Stand p l e R s m args below meth c B.U B.locs B.cells B.slots ∧ Post ⟨T.setVm vm₁, locs, cells, slots⟩ argsL.toArray v B ∧
      ∀ target, Steps p.tables e below (B.U.setTop { g with pc := g.pc + 3, stack := v.toList ++ rest }) target → Steps p.tables e below (T.setTop g) target) ∨
    (∃ (q : Addr) (vm₁ : Vm) (B : Pt), s.WarmedH vm₁ ∧ Stand p l e R s m args below meth c B.U B.locs B.cells B.slots ∧ PostX ⟨T.setVm vm₁, locs, cells, slots⟩ argsL.toArray q B ∧
      Steps p.tables e below (T.setTop g) ((B.U.setTop { g with stack := rest }).pushFrame (.throwing q))) := by
  obtain ⟨mk, methM, cM, hnamed, hmethM, -, -, -, -, -, -, hsigM⟩ := Cond.codeWith_spec hcode
  have hstatic : methM.isStatic = true := Cond.static_spec hnamed hmethM hstat
  obtain ⟨kP, hkP, -⟩ := className_of_methodNamed hnamed
  have hinitP : kP.init = .initialized := Cond.initialized_spec (findClass_of_methodNamed hnamed) hkP hinit
  obtain ⟨vm₁, X₁, hstep₁⟩ := X.invokestatic hexec hown hlink hnamed hmethM hstatic hkP hinitP hy (g := g) hg (argsL := argsL) (rest := rest) (hlen _ hsigM) hstack hdg
  rcases hK m meth c ⟨T.setVm vm₁, locs, cells, slots⟩ { g with stack := rest } (.invokestatic index) mk argsL.toArray X₁ hg hsize hdg hW (X₁.named hnamed) (hpre vm₁ X₁.warmed) with ⟨v, B, X', hpost, hsteps⟩ | ⟨q, B, X', hpost, hsteps⟩
  · exact Or.inl ⟨v, vm₁, B, X₁.warmed, X', hpost, fun target h => hstep₁ _ fun acts => by rw [doInvoke_state]; exact hsteps.trans h⟩
  · exact Or.inr ⟨q, vm₁, B, X₁.warmed, X', hpost, hstep₁ _ fun acts => by rw [doInvoke_state]; exact hsteps⟩
theorem vx_callVW (X : Stand p l e R s m args below meth c T locs cells slots) (hexec : p.tables.exec = Jvm.exec) {own C : String} {index : Nat} {y : MethodName} {bytes : ByteArray} {maxL : Nat} {ret : Option FieldType} {hh : List (Nat × Nat × Nat × Nat)}
    (hown : s.vm.findClass own = some m.cls) (hlink : (Cond.methodLink own index y).before args s = true) (hinst : (Cond.instanceMethod y).before args s = true) (hsel : (Cond.selects C y y).before args s = true)
    (hcode : (Cond.codeWith y bytes maxL ret hh).before args s = true) (hy : y.cls ≠ "java/lang/invoke/MethodHandle" ∧ y.cls ≠ "java/lang/invoke/VarHandle")
    {W9 : Nat} {Pre : Pt → Array Value → Prop} {Post : Pt → Array Value → Option Value → Pt → Prop} (hK : Back l R p e below s args y 3 W9 Pre Post)
    {b : Addr} {cellB : Cell} (hcell : T.heap[b]? = some cellB) (hobj : cellB.vm.isStatics = false) (hcls : s.vm.findClass C = some cellB.cls)
    {g : JFrame} (hg : g.method = m) (hsize : g.locals.size = c.maxLocals) {argsL rest : List Value} (hlen : ∀ sig, parseMethodDescriptor y.desc = some sig → argsL.length = sig.parameters.length)
    (hstack : g.stack = argsL.reverse ++ .ref b :: rest) (hW : 2 * g.monitorRoom + (rest.map fun v => v.category).sum ≤ W9) (hdg : decode c.code g.pc = .ok (.invokevirtual index, 3))
    (hpre : ∀ vm₁, s.WarmedH vm₁ → Pre ⟨T.setVm vm₁, locs, cells, slots⟩ (Value.ref b :: argsL).toArray) :
    ∃ (v : Option Value) (vm₁ : Vm) (B : Pt), s.WarmedH vm₁ ∧ Stand p l e R s m args below meth c B.U B.locs B.cells B.slots ∧ Post ⟨T.setVm vm₁, locs, cells, slots⟩ (Value.ref b :: argsL).toArray v B ∧
      ∀ target, Steps p.tables e below (B.U.setTop { g with pc := g.pc + 3, stack := v.toList ++ rest }) target → Steps p.tables e below (T.setTop g) target := by
  obtain ⟨mk, methM, hnamed, hmethM, hstM, habM⟩ := Cond.instanceMethod_spec hinst
  obtain ⟨m8, methM', cM, hn8, hmethM', -, -, -, -, -, -, hsigM⟩ := Cond.codeWith_spec hcode
  cases Option.some.inj (hn8.symm.trans hnamed)
  cases hmethM.symm.trans hmethM'
  obtain ⟨c2, r2, m2, q1, q2, q3, q4, kP, hkP, hkPi⟩ := Cond.selects_spec hsel
  cases hcls.symm.trans q1
  cases (State.methodFound?_of_named hnamed hy).symm.trans q2
  cases hnamed.symm.trans q3
  have hselP : selectMethod e.platform s.vm cellB.cls mk = .method mk := by rw [Launch.admits_selectMethod X.admits]; exact q4
  obtain ⟨vm₁, X₁, hstep₁⟩ := X.invokevirtual hexec hown hlink hnamed hmethM hstM hkP hkPi hy (a := b) (cell := cellB) hcell
    (fun z h => by rw [h] at hobj; cases hobj) hselP hmethM habM hkP hkPi (g := g) hg (argsL := argsL) (rest := rest) (hlen _ hsigM) hstack hdg
  obtain ⟨v, B, X', hpost, hsteps⟩ := hK m meth c ⟨T.setVm vm₁, locs, cells, slots⟩ { g with stack := rest } (.invokevirtual index) mk (Value.ref b :: argsL).toArray X₁ hg hsize hdg hW (X₁.named hnamed) (hpre vm₁ X₁.warmed)
  exact ⟨v, vm₁, B, X₁.warmed, X', hpost, fun target h => hstep₁ _ fun acts => by rw [doInvoke_state]; exact hsteps.trans h⟩
abbrev vx_CVW (R : Room) (s : State) (args : Array Value) (own C : String) (index : Nat) (y : MethodName) (bytes : ByteArray) (maxL : Nat) (ret : Option FieldType) (hh : List (Nat × Nat × Nat × Nat)) (ws : List Cond) (rm : Room) (mc ms n : Nat) : Prop :=
  (rm.cells = mc ∧ rm.slots = ms ∧ rm.frames + 1 ≤ R.frames ∧ 8 + (maxL + 11) + rm.locals ≤ R.locals ∧ (∀ w ∈ ws, ∀ (a' : Array Value) (U : State), s.WarmedH U.vm → w.before a' U = true) ∧ Cond.codeWith y bytes maxL ret hh ∈ ws) ∧
  (Cond.codeWith y bytes maxL ret hh).before args s = true ∧ (Cond.initialized y.cls).before args s = true ∧ (y.cls ≠ "java/lang/invoke/MethodHandle" ∧ y.cls ≠ "java/lang/invoke/VarHandle") ∧
  (∀ sig, parseMethodDescriptor y.desc = some sig → n = sig.parameters.length) ∧ (Cond.methodLink own index y).before args s = true ∧ (Cond.instanceMethod y).before args s = true ∧ (Cond.selects C y y).before args s = true
theorem vx_cwVW {own C : String} {index maxL mc ms : Nat} {y : MethodName} {bytes : ByteArray} {ret : Option FieldType} {hh : List (Nat × Nat × Nat × Nat)} {Ts ws ws' : List Cond} {rm : Room} (n : Nat) (ht : ∀ w ∈ Ts, w.before args s = true) (hT : GoodIn Ts (wsV own index C y ws)) (hw : ws = Cond.codeWith y bytes maxL ret hh :: ws') (hrc : rm.cells = mc) (hrs : rm.slots = ms)
    (hd : y.cls = C ∧ y.cls ≠ "java/lang/invoke/MethodHandle" ∧ y.cls ≠ "java/lang/invoke/VarHandle" ∧ (parseMethodDescriptor y.desc).map (fun d => d.parameters.length) = some n) (hR : rm.frames + 1 ≤ R.frames ∧ 8 + (maxL + 11) + rm.locals ≤ R.locals) :
    vx_CVW R s args own C index y bytes maxL ret hh ws rm mc ms n := by
  obtain ⟨hC, hd⟩ := hd
  subst hC
  have ok : ∀ w ∈ wsV own index y.cls y ws, w.before args s = true := fun w h => ht w (hT w h).1
  have hG : GoodIn Ts ws := fun w h => hT w (by unfold wsV; exact List.mem_append_right _ h)
  have hc : Cond.codeWith y bytes maxL ret hh ∈ ws := by rw [hw]; exact List.mem_cons_self
  refine ⟨⟨hrc, hrs, hR.1, hR.2, pay_in ht hG, hc⟩, ht _ (hG _ hc).1, ok _ (by simp [wsV]), ⟨hd.1, hd.2.1⟩, fun sig h => ?_, ok _ (by simp [wsV]), ok _ (by simp [wsV]), ok _ (by simp [wsV])⟩
  have h2 := hd.2.2
  rw [h] at h2
  exact (Option.some.inj h2).symm
theorem vx_runVW {y : MethodName} {bytes cc : ByteArray} {maxL nL mc ms n index : Nat} {ret : Option FieldType} {hh : List (Nat × Nat × Nat × Nat)} {ws : List Cond} {rm : Room} {Pc : Array Value → State → Prop} {Qc : Array Value → State → Outcome → State → Prop} {free : Addr → Prop} {Ts : List Cond} {own C : String} {b : Addr} {As rest : List Value} {g : JFrame}
    (S : CallFix p m c cc nL s args Ts own) (hM : Met l y ws rm Pc Qc mc ms free) (cw : vx_CVW R s args own C index y bytes maxL ret hh ws rm mc ms n) (hp : PreV s H C b Pc As)
    (hg : g.method = m) (hn : As.length = n) (hsize : g.locals.size = nL) (hstack : g.stack = As.reverse ++ .ref b :: rest) (hW : 2 * g.monitorRoom + (rest.map fun v => v.category).sum ≤ 8) (hdg : decode cc g.pc = .ok (.invokevirtual index, 3)) (hf : cells + mc ≤ R.cells ∧ slots + ms ≤ R.slots) :
    va_Run p l e R s m args below meth c H locs cells slots mc ms g rest (Qc (Value.ref b :: As).toArray) free := by
  obtain ⟨⟨hrc, hrs, hfr, hlo, hws, hcw⟩, hcode, hini, hy, hlen, hl, hin, hse⟩ := cw
  have hK : Back l R p e below s args y 3 8 (PreOf R mc ms Pc) (PostOf Qc mc ms free) := va_backW (hh := hh) (bytes := bytes) (maxL := maxL) (ret := ret) hM hp.1 hrc hrs hfr hlo hws hcw (fun a' U hW => word_at hW (Or.inl (by first | rfl | simp [Cond.onTables, Cond.keeps, Cond.steady])) hini)
  obtain ⟨hx, hb, hml, ho, -⟩ := S
  obtain ⟨-, ⟨cellB, hcB, hoB, hclB⟩, hPc⟩ := hp
  intro T hT X
  obtain ⟨v, vm₁, ⟨U', l2, c2, s2⟩, hW₁, X', ⟨g', mk, t, L, e1, e2, hq, h1, hL, h2, h3⟩, st⟩ := vx_callVW X hx (C := C) (hh := hh) (bytes := bytes) (maxL := maxL) (ret := ret) ho hl hin hse hcode hy hK (by rw [hT]; exact hcB) hoB hclB hg (hsize.trans hml.symm) (argsL := As) (rest := rest) (fun sig h => hn.trans (hlen sig h)) hstack hW (by rw [hb]; exact hdg)
    (fun vm₁ hW₁ => ⟨hf.1, hf.2, hPc (T.setVm vm₁) hT hW₁⟩)
  dsimp only [Pt.U, Pt.locs, Pt.cells, Pt.slots] at X' e1 e2 h1 h2 h3 st
  subst h1; subst h2; subst h3
  exact ⟨v, (T.setVm vm₁).calling g' mk (Value.ref b :: As).toArray, t, U', L, hT, X', hL, e1, e2, hq, st⟩
section
variable {y : MethodName} {bytes cc : ByteArray} {maxL nL mc ms n index : Nat} {ret : Option FieldType} {ws : List Cond} {rm : Room} {Pc : Array Value → State → Prop} {Qc : Array Value → State → Outcome → State → Prop} {XC : String → State → State → Prop} {free : Addr → Prop} {Ts : List Cond} {own C : String} {b : Addr} {As rest : List Value} {g : JFrame}
theorem vx_runVX {hh : List (Nat × Nat × Nat × Nat)} (S : CallFix p m c cc nL s args Ts own) (hM : vx_Met l y ws rm Pc Qc XC mc ms free) (cw : vx_CVW R s args own C index y bytes maxL ret hh ws rm mc ms n) (hp : PreV s H C b Pc As)
    (hg : g.method = m) (hn : As.length = n) (hsize : g.locals.size = nL) (hstack : g.stack = As.reverse ++ .ref b :: rest) (hW : 2 * g.monitorRoom + (rest.map fun v => v.category).sum ≤ 8) (hdg : decode cc g.pc = .ok (.invokevirtual index, 3)) (hf : cells + mc ≤ R.cells ∧ slots + ms ≤ R.slots) :
    vx_Run p l e R s m args below meth c H locs cells slots mc ms g rest (Qc (Value.ref b :: As).toArray) XC free := by
  obtain ⟨⟨hrc, hrs, hfr, hlo, hws, hcw⟩, hcode, hini, hy, hlen, hl, hin, hse⟩ := cw
  have hK : vx_Back l R p e below s args y 3 8 (PreOf R mc ms Pc) (PostOf Qc mc ms free) (vx_Post XC mc ms free) := vx_backW (hh := hh) (bytes := bytes) (maxL := maxL) (ret := ret) hM hp.1 hrc hrs hfr hlo hws hcw (fun a' U hW => word_at hW (Or.inl (by first | rfl | simp [Cond.onTables, Cond.keeps, Cond.steady])) hini)
  obtain ⟨hx, hb, hml, ho, -⟩ := S
  obtain ⟨-, ⟨cellB, hcB, hoB, hclB⟩, hPc⟩ := hp
  intro T hT X
  rcases vx_callVX X hx (C := C) (hh := hh) (bytes := bytes) (maxL := maxL) (ret := ret) ho hl hin hse hcode hy hK (by rw [hT]; exact hcB) hoB hclB hg (hsize.trans hml.symm) (argsL := As) (rest := rest) (fun sig h => hn.trans (hlen sig h)) hstack hW (by rw [hb]; exact hdg)
    (fun vm₁ hW₁ => ⟨hf.1, hf.2, hPc (T.setVm vm₁) hT hW₁⟩) with ⟨v, vm₁, ⟨U', l2, c2, s2⟩, hW₁, X', ⟨g', mk, t, L, e1, e2, hq, h1, hL, h2, h3⟩, st⟩ | ⟨q, vm₁, ⟨U', l2, c2, s2⟩, hW₁, X', ⟨g', mk, t, L, E, ce, e1, e2, hq, hce, hcv, hcl, h1, hL, h2, h3⟩, st⟩
  · dsimp only [Pt.U, Pt.locs, Pt.cells, Pt.slots] at X' e1 e2 h1 h2 h3 st
    subst h1; subst h2; subst h3
    exact Or.inl ⟨v, (T.setVm vm₁).calling g' mk (Value.ref b :: As).toArray, t, U', L, hT, X', hL, e1, e2, hq, st⟩
  · dsimp only [Pt.U, Pt.locs, Pt.cells, Pt.slots] at X' e1 e2 h1 h2 h3 st hcl
    subst h1; subst h2; subst h3
    exact Or.inr ⟨q, (T.setVm vm₁).calling g' mk (Value.ref b :: As).toArray, t, U', L, E, ce, hT, X', hL, e1, e2, hq, hce, hcv, vx_cls hW₁ hcl, st⟩
theorem vx_runSX {hh : List (Nat × Nat × Nat × Nat)} (S : CallFix p m c cc nL s args Ts own) (hM : vx_Met l y ws rm Pc Qc XC mc ms free) (cw : vx_CSW R s args own index y bytes maxL ret hh ws rm mc ms n) (hp : PreS s H Pc As)
    (hg : g.method = m) (hn : As.length = n) (hsize : g.locals.size = nL) (hstack : g.stack = As.reverse ++ rest) (hW : 2 * g.monitorRoom + (rest.map fun v => v.category).sum ≤ 8) (hdg : decode cc g.pc = .ok (.invokestatic index, 3)) (hf : cells + mc ≤ R.cells ∧ slots + ms ≤ R.slots) :
    vx_Run p l e R s m args below meth c H locs cells slots mc ms g rest (Qc As.toArray) XC free := by
  obtain ⟨⟨hrc, hrs, hfr, hlo, hws, hcw⟩, hcode, hini, hy, hlen, hl, hstt⟩ := cw
  have hK : vx_Back l R p e below s args y 3 8 (PreOf R mc ms Pc) (PostOf Qc mc ms free) (vx_Post XC mc ms free) := vx_backW (hh := hh) (bytes := bytes) (maxL := maxL) (ret := ret) hM hp.1 hrc hrs hfr hlo hws hcw (fun a' U hW => word_at hW (Or.inl (by first | rfl | simp [Cond.onTables, Cond.keeps, Cond.steady])) hini)
  obtain ⟨hx, hb, hml, ho, -⟩ := S
  intro T hT X
  rcases vx_callSX X hx (hh := hh) (bytes := bytes) (maxL := maxL) (ret := ret) ho hl hstt hini hcode hy hK hg (hsize.trans hml.symm) (argsL := As) (rest := rest) (fun sig h => hn.trans (hlen sig h)) hstack hW (by rw [hb]; exact hdg)
    (fun vm₁ hW₁ => ⟨hf.1, hf.2, hp.2 (T.setVm vm₁) hT hW₁⟩) with ⟨v, vm₁, ⟨U', l2, c2, s2⟩, hW₁, X', ⟨g', mk, t, L, e1, e2, hq, h1, hL, h2, h3⟩, st⟩ | ⟨q, vm₁, ⟨U', l2, c2, s2⟩, hW₁, X', ⟨g', mk, t, L, E, ce, e1, e2, hq, hce, hcv, hcl, h1, hL, h2, h3⟩, st⟩
  · dsimp only [Pt.U, Pt.locs, Pt.cells, Pt.slots] at X' e1 e2 h1 h2 h3 st
    subst h1; subst h2; subst h3
    exact Or.inl ⟨v, (T.setVm vm₁).calling g' mk As.toArray, t, U', L, hT, X', hL, e1, e2, hq, st⟩
  · dsimp only [Pt.U, Pt.locs, Pt.cells, Pt.slots] at X' e1 e2 h1 h2 h3 st hcl
    subst h1; subst h2; subst h3
    exact Or.inr ⟨q, (T.setVm vm₁).calling g' mk As.toArray, t, U', L, E, ce, hT, X', hL, e1, e2, hq, hce, hcv, vx_cls hW₁ hcl, st⟩
end
end VXH
theorem vx_ofWH {l : Launch} {y : MethodName} {ws ws' : List Cond} {rm : Room} {Pc : Array Value → State → Prop} {Qc : Array Value → State → Outcome → State → Prop} {XC : String → State → State → Prop} {mc ms : Nat} {free : Addr → Prop} {cc : ByteArray} {maxL : Nat} {ret : Option FieldType} {hh : List (Nat × Nat × Nat × Nat)}
    (hy : plainName y.cls = true) (hw : ws = Cond.codeWith y cc maxL ret hh :: ws')
    (body : ∀ p e s m args below meth c s₁, BodyLoose p l y (headSpec ws rm) cc maxL ret e s m args below meth c s₁ → c.maxLocals = maxL → Pc args s →
      W p l e (headSpec ws rm).room s m args below meth c s.heap [] 0 0 (vx_MQ below Qc XC args s mc ms free) (entryFrame m args maxL)) : vx_Met l y ws rm Pc Qc XC mc ms free := by
  refine MetFree.of_bodyS (code := cc) (maxLocals := maxL) (ret := ret) hy ?_ ?_
  · intro args s m h hn
    obtain ⟨m9, meth, c, hn9, h1, h2, h3, h4, -, h5, h6, -⟩ := Cond.codeWith_spec (atoms_spec (ws := ws) h _ (by rw [hw]; exact List.mem_cons_self))
    cases hn.symm.trans hn9
    exact ⟨meth, c, h1, h2, h3, h4, h5, h6⟩
  · intro p e s m args below meth c s₁ B hml hP _
    have hh0 : s₁.heap = s.heap := by rw [B.state]; rfl
    obtain ⟨t, a1, o, b1, b2, b3⟩ := body p e s m args below meth c s₁ B hml hP s₁ hh0 (Stand.of_body B)
    exact ⟨t, o, a1, b1, b2, b3⟩
/-! ===== END ===== -/
end
section
-- ===== PART A: goes FIRST, ahead of the names: the tables' words, and 'selects' of the private methods out of them =====
/-- a private method of a class that the tables say can be made, by its rows of tables_1 -/
def lw_okq (q : MethodName × Nat) : Prop := (q.1.cls ≠ "java/lang/invoke/MethodHandle" ∧ q.1.cls ≠ "java/lang/invoke/VarHandle") ∧ Cond.instantiable q.1.cls q.2 ∈ tables_1 ∧ Cond.privateMethod q.1 ∈ tables_1 ∧ Cond.instanceMethod q.1 ∈ tables_1
theorem lw_p0 : lw_okq (⟨"DecisionChainLaw$Chain", "act", "(LDecisionChainLaw$Draws;II)V"⟩, 17) := ⟨⟨by decide +kernel, by decide +kernel⟩, List.mem_of_getElem? (i := 440) (by decide +kernel), List.mem_of_getElem? (i := 644) (by decide +kernel), List.mem_of_getElem? (i := 645) (by decide +kernel)⟩
theorem lw_p1 : lw_okq (⟨"DecisionChainLaw$Chain", "rule", "(LDecisionChainLaw$Draws;I)V"⟩, 17) := ⟨⟨by decide +kernel, by decide +kernel⟩, List.mem_of_getElem? (i := 440) (by decide +kernel), List.mem_of_getElem? (i := 678) (by decide +kernel), List.mem_of_getElem? (i := 679) (by decide +kernel)⟩
theorem lw_p2 : lw_okq (⟨"java/lang/Throwable", "fillInStackTrace", "(I)Ljava/lang/Throwable;"⟩, 6) := ⟨⟨by decide +kernel, by decide +kernel⟩, List.mem_of_getElem? (i := 844) (by decide +kernel), List.mem_of_getElem? (i := 842) (by decide +kernel), List.mem_of_getElem? (i := 843) (by decide +kernel)⟩
theorem lw_p3 : lw_okq (⟨"DecisionChain$Parser", "parseHead", "()Z"⟩, 7) := ⟨⟨by decide +kernel, by decide +kernel⟩, List.mem_of_getElem? (i := 212) (by decide +kernel), List.mem_of_getElem? (i := 910) (by decide +kernel), List.mem_of_getElem? (i := 911) (by decide +kernel)⟩
theorem lw_p4 : lw_okq (⟨"DecisionChain$Parser", "takeWord", "(Ljava/lang/String;)Z"⟩, 7) := ⟨⟨by decide +kernel, by decide +kernel⟩, List.mem_of_getElem? (i := 212) (by decide +kernel), List.mem_of_getElem? (i := 915) (by decide +kernel), List.mem_of_getElem? (i := 916) (by decide +kernel)⟩
theorem lw_p5 : lw_okq (⟨"DecisionChain$Parser", "fail", "(I)Z"⟩, 7) := ⟨⟨by decide +kernel, by decide +kernel⟩, List.mem_of_getElem? (i := 212) (by decide +kernel), List.mem_of_getElem? (i := 925) (by decide +kernel), List.mem_of_getElem? (i := 926) (by decide +kernel)⟩
theorem lw_p6 : lw_okq (⟨"DecisionChain$Parser", "takeNumber", "(II)Z"⟩, 7) := ⟨⟨by decide +kernel, by decide +kernel⟩, List.mem_of_getElem? (i := 212) (by decide +kernel), List.mem_of_getElem? (i := 931) (by decide +kernel), List.mem_of_getElem? (i := 932) (by decide +kernel)⟩
theorem lw_p7 : lw_okq (⟨"DecisionChain$Parser", "seeNumber", "(II)Z"⟩, 7) := ⟨⟨by decide +kernel, by decide +kernel⟩, List.mem_of_getElem? (i := 212) (by decide +kernel), List.mem_of_getElem? (i := 935) (by decide +kernel), List.mem_of_getElem? (i := 936) (by decide +kernel)⟩
theorem lw_p8 : lw_okq (⟨"DecisionChain$Parser", "parseLine", "()Z"⟩, 7) := ⟨⟨by decide +kernel, by decide +kernel⟩, List.mem_of_getElem? (i := 212) (by decide +kernel), List.mem_of_getElem? (i := 941) (by decide +kernel), List.mem_of_getElem? (i := 942) (by decide +kernel)⟩
theorem lw_p9 : lw_okq (⟨"DecisionChain$Parser", "parseBudget", "()Z"⟩, 7) := ⟨⟨by decide +kernel, by decide +kernel⟩, List.mem_of_getElem? (i := 212) (by decide +kernel), List.mem_of_getElem? (i := 946) (by decide +kernel), List.mem_of_getElem? (i := 947) (by decide +kernel)⟩
theorem lw_p10 : lw_okq (⟨"DecisionChain$Parser", "parseAct", "()Z"⟩, 7) := ⟨⟨by decide +kernel, by decide +kernel⟩, List.mem_of_getElem? (i := 212) (by decide +kernel), List.mem_of_getElem? (i := 951) (by decide +kernel), List.mem_of_getElem? (i := 952) (by decide +kernel)⟩
theorem lw_p11 : lw_okq (⟨"DecisionChain$Parser", "seeState", "()Z"⟩, 7) := ⟨⟨by decide +kernel, by decide +kernel⟩, List.mem_of_getElem? (i := 212) (by decide +kernel), List.mem_of_getElem? (i := 955) (by decide +kernel), List.mem_of_getElem? (i := 956) (by decide +kernel)⟩
theorem lw_p12 : lw_okq (⟨"DecisionChain$Parser", "parseGain", "(I)Z"⟩, 7) := ⟨⟨by decide +kernel, by decide +kernel⟩, List.mem_of_getElem? (i := 212) (by decide +kernel), List.mem_of_getElem? (i := 960) (by decide +kernel), List.mem_of_getElem? (i := 961) (by decide +kernel)⟩
theorem lw_p13 : lw_okq (⟨"DecisionChain$Parser", "parseUses", "(I)Z"⟩, 7) := ⟨⟨by decide +kernel, by decide +kernel⟩, List.mem_of_getElem? (i := 212) (by decide +kernel), List.mem_of_getElem? (i := 964) (by decide +kernel), List.mem_of_getElem? (i := 965) (by decide +kernel)⟩
theorem lw_p14 : lw_okq (⟨"DecisionChain$Parser", "parsePercents", "(I)Z"⟩, 7) := ⟨⟨by decide +kernel, by decide +kernel⟩, List.mem_of_getElem? (i := 212) (by decide +kernel), List.mem_of_getElem? (i := 973) (by decide +kernel), List.mem_of_getElem? (i := 974) (by decide +kernel)⟩
theorem lw_p15 : lw_okq (⟨"DecisionChain$Parser", "endLine", "(I)Z"⟩, 7) := ⟨⟨by decide +kernel, by decide +kernel⟩, List.mem_of_getElem? (i := 212) (by decide +kernel), List.mem_of_getElem? (i := 986) (by decide +kernel), List.mem_of_getElem? (i := 987) (by decide +kernel)⟩
def lw_privs_1 : List (MethodName × Nat) := [(⟨"DecisionChainLaw$Chain", "act", "(LDecisionChainLaw$Draws;II)V"⟩, 17), (⟨"DecisionChainLaw$Chain", "rule", "(LDecisionChainLaw$Draws;I)V"⟩, 17), (⟨"java/lang/Throwable", "fillInStackTrace", "(I)Ljava/lang/Throwable;"⟩, 6), (⟨"DecisionChain$Parser", "parseHead", "()Z"⟩, 7), (⟨"DecisionChain$Parser", "takeWord", "(Ljava/lang/String;)Z"⟩, 7), (⟨"DecisionChain$Parser", "fail", "(I)Z"⟩, 7), (⟨"DecisionChain$Parser", "takeNumber", "(II)Z"⟩, 7), (⟨"DecisionChain$Parser", "seeNumber", "(II)Z"⟩, 7), (⟨"DecisionChain$Parser", "parseLine", "()Z"⟩, 7), (⟨"DecisionChain$Parser", "parseBudget", "()Z"⟩, 7), (⟨"DecisionChain$Parser", "parseAct", "()Z"⟩, 7), (⟨"DecisionChain$Parser", "seeState", "()Z"⟩, 7), (⟨"DecisionChain$Parser", "parseGain", "(I)Z"⟩, 7), (⟨"DecisionChain$Parser", "parseUses", "(I)Z"⟩, 7), (⟨"DecisionChain$Parser", "parsePercents", "(I)Z"⟩, 7), (⟨"DecisionChain$Parser", "endLine", "(I)Z"⟩, 7)]
theorem lw_r1 : ∀ q ∈ lw_privs_1, lw_okq q := List.forall_mem_cons.mpr ⟨lw_p0, List.forall_mem_cons.mpr ⟨lw_p1, List.forall_mem_cons.mpr ⟨lw_p2, List.forall_mem_cons.mpr ⟨lw_p3, List.forall_mem_cons.mpr ⟨lw_p4, List.forall_mem_cons.mpr ⟨lw_p5, List.forall_mem_cons.mpr ⟨lw_p6, List.forall_mem_cons.mpr ⟨lw_p7, List.forall_mem_cons.mpr ⟨lw_p8, List.forall_mem_cons.mpr ⟨lw_p9, List.forall_mem_cons.mpr ⟨lw_p10, List.forall_mem_cons.mpr ⟨lw_p11, List.forall_mem_cons.mpr ⟨lw_p12, List.forall_mem_cons.mpr ⟨lw_p13, List.forall_mem_cons.mpr ⟨lw_p14, List.forall_mem_cons.mpr ⟨lw_p15, fun _ h => absurd h List.not_mem_nil⟩⟩⟩⟩⟩⟩⟩⟩⟩⟩⟩⟩⟩⟩⟩⟩
theorem lw_p16 : lw_okq (⟨"DecisionChain$Parser", "parseRule", "()Z"⟩, 7) := ⟨⟨by decide +kernel, by decide +kernel⟩, List.mem_of_getElem? (i := 212) (by decide +kernel), List.mem_of_getElem? (i := 991) (by decide +kernel), List.mem_of_getElem? (i := 992) (by decide +kernel)⟩
theorem lw_p17 : lw_okq (⟨"DecisionChain$Parser", "parseWeights", "(I)Z"⟩, 7) := ⟨⟨by decide +kernel, by decide +kernel⟩, List.mem_of_getElem? (i := 212) (by decide +kernel), List.mem_of_getElem? (i := 995) (by decide +kernel), List.mem_of_getElem? (i := 996) (by decide +kernel)⟩
theorem lw_p18 : lw_okq (⟨"DecisionChain$Parser", "parseStart", "()Z"⟩, 7) := ⟨⟨by decide +kernel, by decide +kernel⟩, List.mem_of_getElem? (i := 212) (by decide +kernel), List.mem_of_getElem? (i := 999) (by decide +kernel), List.mem_of_getElem? (i := 1000) (by decide +kernel)⟩
theorem lw_p19 : lw_okq (⟨"DecisionChain$Parser", "checkStates", "()Z"⟩, 7) := ⟨⟨by decide +kernel, by decide +kernel⟩, List.mem_of_getElem? (i := 212) (by decide +kernel), List.mem_of_getElem? (i := 1004) (by decide +kernel), List.mem_of_getElem? (i := 1005) (by decide +kernel)⟩
theorem lw_p20 : lw_okq (⟨"DecisionChain", "needAction", "(II)V"⟩, 12) := ⟨⟨by decide +kernel, by decide +kernel⟩, List.mem_of_getElem? (i := 34) (by decide +kernel), List.mem_of_getElem? (i := 1063) (by decide +kernel), List.mem_of_getElem? (i := 1064) (by decide +kernel)⟩
theorem lw_p21 : lw_okq (⟨"DecisionChain", "needState", "(I)V"⟩, 12) := ⟨⟨by decide +kernel, by decide +kernel⟩, List.mem_of_getElem? (i := 34) (by decide +kernel), List.mem_of_getElem? (i := 1067) (by decide +kernel), List.mem_of_getElem? (i := 1068) (by decide +kernel)⟩
theorem lw_p22 : lw_okq (⟨"DecisionChain", "needChain", "()V"⟩, 12) := ⟨⟨by decide +kernel, by decide +kernel⟩, List.mem_of_getElem? (i := 34) (by decide +kernel), List.mem_of_getElem? (i := 1071) (by decide +kernel), List.mem_of_getElem? (i := 1072) (by decide +kernel)⟩
theorem lw_p23 : lw_okq (⟨"DecisionChain", "needBudget", "(I)V"⟩, 12) := ⟨⟨by decide +kernel, by decide +kernel⟩, List.mem_of_getElem? (i := 34) (by decide +kernel), List.mem_of_getElem? (i := 1097) (by decide +kernel), List.mem_of_getElem? (i := 1098) (by decide +kernel)⟩
theorem lw_p24 : lw_okq (⟨"DecisionChain", "needTime", "(I)V"⟩, 12) := ⟨⟨by decide +kernel, by decide +kernel⟩, List.mem_of_getElem? (i := 34) (by decide +kernel), List.mem_of_getElem? (i := 1116) (by decide +kernel), List.mem_of_getElem? (i := 1117) (by decide +kernel)⟩
theorem lw_p25 : lw_okq (⟨"DecisionChain", "followRules", "()V"⟩, 12) := ⟨⟨by decide +kernel, by decide +kernel⟩, List.mem_of_getElem? (i := 34) (by decide +kernel), List.mem_of_getElem? (i := 1124) (by decide +kernel), List.mem_of_getElem? (i := 1125) (by decide +kernel)⟩
theorem lw_p26 : lw_okq (⟨"DecisionChain$Flows", "fillParts", "([I)V"⟩, 7) := ⟨⟨by decide +kernel, by decide +kernel⟩, List.mem_of_getElem? (i := 183) (by decide +kernel), List.mem_of_getElem? (i := 1132) (by decide +kernel), List.mem_of_getElem? (i := 1133) (by decide +kernel)⟩
theorem lw_p27 : lw_okq (⟨"DecisionChain$Flows", "addParts", "(III)V"⟩, 7) := ⟨⟨by decide +kernel, by decide +kernel⟩, List.mem_of_getElem? (i := 183) (by decide +kernel), List.mem_of_getElem? (i := 1140) (by decide +kernel), List.mem_of_getElem? (i := 1141) (by decide +kernel)⟩
theorem lw_p28 : lw_okq (⟨"DecisionChain$Flows", "spread", "([JI)V"⟩, 7) := ⟨⟨by decide +kernel, by decide +kernel⟩, List.mem_of_getElem? (i := 183) (by decide +kernel), List.mem_of_getElem? (i := 1145) (by decide +kernel), List.mem_of_getElem? (i := 1146) (by decide +kernel)⟩
theorem lw_p29 : lw_okq (⟨"DecisionChain$Flows", "partsTo", "(II)J"⟩, 7) := ⟨⟨by decide +kernel, by decide +kernel⟩, List.mem_of_getElem? (i := 183) (by decide +kernel), List.mem_of_getElem? (i := 1149) (by decide +kernel), List.mem_of_getElem? (i := 1150) (by decide +kernel)⟩
theorem lw_p30 : lw_okq (⟨"DecisionChain$Flows", "sumOf", "(II)J"⟩, 7) := ⟨⟨by decide +kernel, by decide +kernel⟩, List.mem_of_getElem? (i := 183) (by decide +kernel), List.mem_of_getElem? (i := 1185) (by decide +kernel), List.mem_of_getElem? (i := 1186) (by decide +kernel)⟩
theorem lw_p31 : lw_okq (⟨"DecisionChain$Flows", "fillChances", "()V"⟩, 7) := ⟨⟨by decide +kernel, by decide +kernel⟩, List.mem_of_getElem? (i := 183) (by decide +kernel), List.mem_of_getElem? (i := 1199) (by decide +kernel), List.mem_of_getElem? (i := 1200) (by decide +kernel)⟩
def lw_privs_2 : List (MethodName × Nat) := [(⟨"DecisionChain$Parser", "parseRule", "()Z"⟩, 7), (⟨"DecisionChain$Parser", "parseWeights", "(I)Z"⟩, 7), (⟨"DecisionChain$Parser", "parseStart", "()Z"⟩, 7), (⟨"DecisionChain$Parser", "checkStates", "()Z"⟩, 7), (⟨"DecisionChain", "needAction", "(II)V"⟩, 12), (⟨"DecisionChain", "needState", "(I)V"⟩, 12), (⟨"DecisionChain", "needChain", "()V"⟩, 12), (⟨"DecisionChain", "needBudget", "(I)V"⟩, 12), (⟨"DecisionChain", "needTime", "(I)V"⟩, 12), (⟨"DecisionChain", "followRules", "()V"⟩, 12), (⟨"DecisionChain$Flows", "fillParts", "([I)V"⟩, 7), (⟨"DecisionChain$Flows", "addParts", "(III)V"⟩, 7), (⟨"DecisionChain$Flows", "spread", "([JI)V"⟩, 7), (⟨"DecisionChain$Flows", "partsTo", "(II)J"⟩, 7), (⟨"DecisionChain$Flows", "sumOf", "(II)J"⟩, 7), (⟨"DecisionChain$Flows", "fillChances", "()V"⟩, 7)]
theorem lw_r2 : ∀ q ∈ lw_privs_2, lw_okq q := List.forall_mem_cons.mpr ⟨lw_p16, List.forall_mem_cons.mpr ⟨lw_p17, List.forall_mem_cons.mpr ⟨lw_p18, List.forall_mem_cons.mpr ⟨lw_p19, List.forall_mem_cons.mpr ⟨lw_p20, List.forall_mem_cons.mpr ⟨lw_p21, List.forall_mem_cons.mpr ⟨lw_p22, List.forall_mem_cons.mpr ⟨lw_p23, List.forall_mem_cons.mpr ⟨lw_p24, List.forall_mem_cons.mpr ⟨lw_p25, List.forall_mem_cons.mpr ⟨lw_p26, List.forall_mem_cons.mpr ⟨lw_p27, List.forall_mem_cons.mpr ⟨lw_p28, List.forall_mem_cons.mpr ⟨lw_p29, List.forall_mem_cons.mpr ⟨lw_p30, List.forall_mem_cons.mpr ⟨lw_p31, fun _ h => absurd h List.not_mem_nil⟩⟩⟩⟩⟩⟩⟩⟩⟩⟩⟩⟩⟩⟩⟩⟩
theorem lw_p32 : lw_okq (⟨"DecisionChain$Flows", "chanceOver", "(III)J"⟩, 7) := ⟨⟨by decide +kernel, by decide +kernel⟩, List.mem_of_getElem? (i := 183) (by decide +kernel), List.mem_of_getElem? (i := 1203) (by decide +kernel), List.mem_of_getElem? (i := 1204) (by decide +kernel)⟩
theorem lw_p33 : lw_okq (⟨"DecisionChain$Flows", "likeliestNext", "(II)I"⟩, 7) := ⟨⟨by decide +kernel, by decide +kernel⟩, List.mem_of_getElem? (i := 183) (by decide +kernel), List.mem_of_getElem? (i := 1210) (by decide +kernel), List.mem_of_getElem? (i := 1211) (by decide +kernel)⟩
theorem lw_p34 : lw_okq (⟨"DecisionChain$Values", "valueOver", "(II)J"⟩, 3) := ⟨⟨by decide +kernel, by decide +kernel⟩, List.mem_of_getElem? (i := 331) (by decide +kernel), List.mem_of_getElem? (i := 1229) (by decide +kernel), List.mem_of_getElem? (i := 1230) (by decide +kernel)⟩
theorem lw_p35 : lw_okq (⟨"DecisionChain$PureSets", "fill", "()V"⟩, 11) := ⟨⟨by decide +kernel, by decide +kernel⟩, List.mem_of_getElem? (i := 290) (by decide +kernel), List.mem_of_getElem? (i := 1258) (by decide +kernel), List.mem_of_getElem? (i := 1259) (by decide +kernel)⟩
theorem lw_p36 : lw_okq (⟨"DecisionChain$PureSets", "begin", "()Z"⟩, 11) := ⟨⟨by decide +kernel, by decide +kernel⟩, List.mem_of_getElem? (i := 290) (by decide +kernel), List.mem_of_getElem? (i := 1262) (by decide +kernel), List.mem_of_getElem? (i := 1263) (by decide +kernel)⟩
theorem lw_p37 : lw_okq (⟨"DecisionChain$PureSets", "moveOn", "()Z"⟩, 11) := ⟨⟨by decide +kernel, by decide +kernel⟩, List.mem_of_getElem? (i := 290) (by decide +kernel), List.mem_of_getElem? (i := 1283) (by decide +kernel), List.mem_of_getElem? (i := 1284) (by decide +kernel)⟩
theorem lw_p38 : lw_okq (⟨"DecisionChain$PureSets", "isPermittedSet", "()Z"⟩, 11) := ⟨⟨by decide +kernel, by decide +kernel⟩, List.mem_of_getElem? (i := 290) (by decide +kernel), List.mem_of_getElem? (i := 1288) (by decide +kernel), List.mem_of_getElem? (i := 1289) (by decide +kernel)⟩
theorem lw_p39 : lw_okq (⟨"DecisionChain$PureSets", "holds", "(II)Z"⟩, 11) := ⟨⟨by decide +kernel, by decide +kernel⟩, List.mem_of_getElem? (i := 290) (by decide +kernel), List.mem_of_getElem? (i := 1293) (by decide +kernel), List.mem_of_getElem? (i := 1294) (by decide +kernel)⟩
theorem lw_p40 : lw_okq (⟨"DecisionChain", "brokenWith", "([I)I"⟩, 12) := ⟨⟨by decide +kernel, by decide +kernel⟩, List.mem_of_getElem? (i := 34) (by decide +kernel), List.mem_of_getElem? (i := 1311) (by decide +kernel), List.mem_of_getElem? (i := 1312) (by decide +kernel)⟩
theorem lw_p41 : lw_okq (⟨"DecisionChain", "needWalk", "()V"⟩, 12) := ⟨⟨by decide +kernel, by decide +kernel⟩, List.mem_of_getElem? (i := 34) (by decide +kernel), List.mem_of_getElem? (i := 1322) (by decide +kernel), List.mem_of_getElem? (i := 1323) (by decide +kernel)⟩
theorem lw_p42 : lw_okq (⟨"DecisionChain$Walker", "draw", "()I"⟩, 4) := ⟨⟨by decide +kernel, by decide +kernel⟩, List.mem_of_getElem? (i := 347) (by decide +kernel), List.mem_of_getElem? (i := 1339) (by decide +kernel), List.mem_of_getElem? (i := 1340) (by decide +kernel)⟩
theorem lw_p43 : lw_okq (⟨"DecisionChain$Walker", "drawAction", "([II)I"⟩, 4) := ⟨⟨by decide +kernel, by decide +kernel⟩, List.mem_of_getElem? (i := 347) (by decide +kernel), List.mem_of_getElem? (i := 1343) (by decide +kernel), List.mem_of_getElem? (i := 1344) (by decide +kernel)⟩
theorem lw_p44 : lw_okq (⟨"DecisionChain$Walker", "drawNext", "(II)I"⟩, 4) := ⟨⟨by decide +kernel, by decide +kernel⟩, List.mem_of_getElem? (i := 347) (by decide +kernel), List.mem_of_getElem? (i := 1348) (by decide +kernel), List.mem_of_getElem? (i := 1349) (by decide +kernel)⟩
theorem lw_p45 : lw_okq (⟨"DecisionChain$Keeper", "dropOldest", "()V"⟩, 4) := ⟨⟨by decide +kernel, by decide +kernel⟩, List.mem_of_getElem? (i := 248) (by decide +kernel), List.mem_of_getElem? (i := 1367) (by decide +kernel), List.mem_of_getElem? (i := 1368) (by decide +kernel)⟩
def lw_privs_3 : List (MethodName × Nat) := [(⟨"DecisionChain$Flows", "chanceOver", "(III)J"⟩, 7), (⟨"DecisionChain$Flows", "likeliestNext", "(II)I"⟩, 7), (⟨"DecisionChain$Values", "valueOver", "(II)J"⟩, 3), (⟨"DecisionChain$PureSets", "fill", "()V"⟩, 11), (⟨"DecisionChain$PureSets", "begin", "()Z"⟩, 11), (⟨"DecisionChain$PureSets", "moveOn", "()Z"⟩, 11), (⟨"DecisionChain$PureSets", "isPermittedSet", "()Z"⟩, 11), (⟨"DecisionChain$PureSets", "holds", "(II)Z"⟩, 11), (⟨"DecisionChain", "brokenWith", "([I)I"⟩, 12), (⟨"DecisionChain", "needWalk", "()V"⟩, 12), (⟨"DecisionChain$Walker", "draw", "()I"⟩, 4), (⟨"DecisionChain$Walker", "drawAction", "([II)I"⟩, 4), (⟨"DecisionChain$Walker", "drawNext", "(II)I"⟩, 4), (⟨"DecisionChain$Keeper", "dropOldest", "()V"⟩, 4)]
theorem lw_r3 : ∀ q ∈ lw_privs_3, lw_okq q := List.forall_mem_cons.mpr ⟨lw_p32, List.forall_mem_cons.mpr ⟨lw_p33, List.forall_mem_cons.mpr ⟨lw_p34, List.forall_mem_cons.mpr ⟨lw_p35, List.forall_mem_cons.mpr ⟨lw_p36, List.forall_mem_cons.mpr ⟨lw_p37, List.forall_mem_cons.mpr ⟨lw_p38, List.forall_mem_cons.mpr ⟨lw_p39, List.forall_mem_cons.mpr ⟨lw_p40, List.forall_mem_cons.mpr ⟨lw_p41, List.forall_mem_cons.mpr ⟨lw_p42, List.forall_mem_cons.mpr ⟨lw_p43, List.forall_mem_cons.mpr ⟨lw_p44, List.forall_mem_cons.mpr ⟨lw_p45, fun _ h => absurd h List.not_mem_nil⟩⟩⟩⟩⟩⟩⟩⟩⟩⟩⟩⟩⟩⟩
def lw_privs : List (MethodName × Nat) := lw_privs_1 ++ (lw_privs_2 ++ (lw_privs_3))
def lw_tbl : List Cond := k2_sels lw_privs ++ tables_1
theorem lw_privs_ok : ∀ q ∈ lw_privs, lw_okq q := by
  show ∀ q ∈ lw_privs_1 ++ (lw_privs_2 ++ (lw_privs_3)), lw_okq q
  exact List.forall_mem_append.mpr ⟨lw_r1, List.forall_mem_append.mpr ⟨lw_r2, lw_r3⟩⟩
/-- the streams that the claim lets the run draw from -/
abbrev lw_cs : List Choice := [Jvm.Choice.named "NaN.bits"]
theorem lw_bits : nanBits ∈ lw_cs := by first | decide | exact List.mem_cons_self | simp [lw_cs, nanBits]

def RX0 : String := "DecisionChain$Chain"
def TX0 : u_T := fun k => match k with
  | 0 => ("DecisionChain$Chain", "states", "I", false)
  | 1 => ("DecisionChain$Chain", "budgets", "I", false)
  | 2 => ("DecisionChain$Chain", "actions", "[I", true)
  | 3 => ("DecisionChain$Chain", "gains", "[I", true)
  | 4 => ("DecisionChain$Chain", "amounts", "[I", true)
  | 5 => ("DecisionChain$Chain", "percents", "[I", true)
  | 6 => ("DecisionChain$Chain", "tells", "[I", true)
  | _ => ("DecisionChain$Chain", "told", "[I", true)
def tyX0 : Nat → FieldType := fun k => match k with
  | 0 => .int
  | 1 => .int
  | 2 => .array .int
  | 3 => .array .int
  | 4 => .array .int
  | 5 => .array .int
  | 6 => .array .int
  | _ => .array .int
theorem nmX0 : ∀ a, a < 8 → ∀ b, b < 8 → a ≠ b → (TX0 a).2.1 ≠ (TX0 b).2.1 := by decide +kernel
theorem tyX0_ok : ∀ k, k < 8 → parseFieldDescriptor (TX0 k).2.2.1 = some (tyX0 k) := by decide +kernel
abbrev cX0_init : ByteArray := prog_2_method_1_code
def yX0_init : MethodName := ⟨RX0, "<init>", "()V"⟩
abbrev cX0_clear : ByteArray := prog_2_method_2_code
def yX0_clear : MethodName := ⟨RX0, "clear", "()V"⟩
abbrev cX0_copyFrom : ByteArray := prog_2_method_3_code
def yX0_copyFrom : MethodName := ⟨RX0, "copyFrom", "(LDecisionChain$Chain;)V"⟩
abbrev cX0_amountOf : ByteArray := prog_2_method_4_code
def yX0_amountOf : MethodName := ⟨RX0, "amountOf", "(II)I"⟩
abbrev cX0_percentTo : ByteArray := prog_2_method_5_code
def yX0_percentTo : MethodName := ⟨RX0, "percentTo", "(II)I"⟩
abbrev cX0_tell : ByteArray := prog_2_method_6_code
def yX0_tell : MethodName := ⟨RX0, "tell", "(III)V"⟩
abbrev cX0_countActions : ByteArray := prog_2_method_7_code
def yX0_countActions : MethodName := ⟨RX0, "countActions", "()I"⟩
def RX1 : String := "DecisionChain$Flows"
def TX1 : u_T := fun k => match k with
  | 0 => ("DecisionChain$Flows", "chain", "LDecisionChain$Chain;", true)
  | 1 => ("DecisionChain$Flows", "start", "I", false)
  | 2 => ("DecisionChain$Flows", "horizon", "I", false)
  | 3 => ("DecisionChain$Flows", "parts", "[J", true)
  | 4 => ("DecisionChain$Flows", "flow", "[J", true)
  | 5 => ("DecisionChain$Flows", "missing", "[J", true)
  | _ => ("DecisionChain$Flows", "chances", "[J", true)
def tyX1 : Nat → FieldType := fun k => match k with
  | 0 => .object "DecisionChain$Chain"
  | 1 => .int
  | 2 => .int
  | 3 => .array .long
  | 4 => .array .long
  | 5 => .array .long
  | _ => .array .long
theorem nmX1 : ∀ a, a < 7 → ∀ b, b < 7 → a ≠ b → (TX1 a).2.1 ≠ (TX1 b).2.1 := by decide +kernel
theorem tyX1_ok : ∀ k, k < 7 → parseFieldDescriptor (TX1 k).2.2.1 = some (tyX1 k) := by decide +kernel
abbrev cX1_init : ByteArray := prog_3_method_1_code
def yX1_init : MethodName := ⟨RX1, "<init>", "(LDecisionChain$Chain;)V"⟩
abbrev cX1_follow : ByteArray := prog_3_method_2_code
def yX1_follow : MethodName := ⟨RX1, "follow", "([III)V"⟩
abbrev cX1_fillParts : ByteArray := prog_3_method_3_code
def yX1_fillParts : MethodName := ⟨RX1, "fillParts", "([I)V"⟩
abbrev cX1_addParts : ByteArray := prog_3_method_4_code
def yX1_addParts : MethodName := ⟨RX1, "addParts", "(III)V"⟩
abbrev cX1_spread : ByteArray := prog_3_method_5_code
def yX1_spread : MethodName := ⟨RX1, "spread", "([JI)V"⟩
abbrev cX1_partsTo : ByteArray := prog_3_method_6_code
def yX1_partsTo : MethodName := ⟨RX1, "partsTo", "(II)J"⟩
abbrev cX1_nextStates : ByteArray := prog_3_method_7_code
def yX1_nextStates : MethodName := ⟨RX1, "nextStates", "(I)I"⟩
abbrev cX1_at : ByteArray := prog_3_method_8_code
def yX1_at : MethodName := ⟨RX1, "at", "(II)J"⟩
abbrev cX1_visitsOf : ByteArray := prog_3_method_9_code
def yX1_visitsOf : MethodName := ⟨RX1, "visitsOf", "(I)J"⟩
abbrev cX1_sumOf : ByteArray := prog_3_method_10_code
def yX1_sumOf : MethodName := ⟨RX1, "sumOf", "(II)J"⟩
abbrev cX1_rankOf : ByteArray := prog_3_method_11_code
def yX1_rankOf : MethodName := ⟨RX1, "rankOf", "(I)I"⟩
abbrev cX1_hitOf : ByteArray := prog_3_method_12_code
def yX1_hitOf : MethodName := ⟨RX1, "hitOf", "(I)J"⟩
abbrev cX1_gainOf : ByteArray := prog_3_method_13_code
def yX1_gainOf : MethodName := ⟨RX1, "gainOf", "([I)J"⟩
abbrev cX1_usedOf : ByteArray := prog_3_method_14_code
def yX1_usedOf : MethodName := ⟨RX1, "usedOf", "([II)J"⟩
abbrev cX1_stateOfLikeliest : ByteArray := prog_3_method_16_code
def yX1_stateOfLikeliest : MethodName := ⟨RX1, "stateOfLikeliest", "(I)I"⟩
abbrev cX1_fillChances : ByteArray := prog_3_method_17_code
def yX1_fillChances : MethodName := ⟨RX1, "fillChances", "()V"⟩
abbrev cX1_chanceOver : ByteArray := prog_3_method_18_code
def yX1_chanceOver : MethodName := ⟨RX1, "chanceOver", "(III)J"⟩
abbrev cX1_likeliestNext : ByteArray := prog_3_method_19_code
def yX1_likeliestNext : MethodName := ⟨RX1, "likeliestNext", "(II)I"⟩
def RX2 : String := "DecisionChain$Input"
def TX2 : u_T := fun k => match k with
  | 0 => ("DecisionChain$Input", "bytes", "[B", true)
  | 1 => ("DecisionChain$Input", "count", "I", false)
  | 2 => ("DecisionChain$Input", "limit", "I", false)
  | 3 => ("DecisionChain$Input", "kind", "I", false)
  | 4 => ("DecisionChain$Input", "at", "I", false)
  | 5 => ("DecisionChain$Input", "end", "I", false)
  | _ => ("DecisionChain$Input", "number", "I", false)
def tyX2 : Nat → FieldType := fun k => match k with
  | 0 => .array .byte
  | 1 => .int
  | 2 => .int
  | 3 => .int
  | 4 => .int
  | 5 => .int
  | _ => .int
theorem nmX2 : ∀ a, a < 7 → ∀ b, b < 7 → a ≠ b → (TX2 a).2.1 ≠ (TX2 b).2.1 := by decide +kernel
theorem tyX2_ok : ∀ k, k < 7 → parseFieldDescriptor (TX2 k).2.2.1 = some (tyX2 k) := by decide +kernel
abbrev cX2_init : ByteArray := prog_4_method_1_code
def yX2_init : MethodName := ⟨RX2, "<init>", "()V"⟩
abbrev cX2_hasRoom : ByteArray := prog_4_method_2_code
def yX2_hasRoom : MethodName := ⟨RX2, "hasRoom", "(I)Z"⟩
abbrev cX2_put : ByteArray := prog_4_method_3_code
def yX2_put : MethodName := ⟨RX2, "put", "(I)V"⟩
abbrev cX2_begin : ByteArray := prog_4_method_4_code
def yX2_begin : MethodName := ⟨RX2, "begin", "(I)V"⟩
abbrev cX2_advance : ByteArray := prog_4_method_5_code
def yX2_advance : MethodName := ⟨RX2, "advance", "()V"⟩
abbrev cX2_isWord : ByteArray := prog_4_method_6_code
def yX2_isWord : MethodName := ⟨RX2, "isWord", "(Ljava/lang/String;)Z"⟩
abbrev cX2_isLetter : ByteArray := prog_4_method_7_code
def yX2_isLetter : MethodName := ⟨RX2, "isLetter", "(I)Z"⟩
abbrev cX2_isDigit : ByteArray := prog_4_method_8_code
def yX2_isDigit : MethodName := ⟨RX2, "isDigit", "(I)Z"⟩
def RX3 : String := "DecisionChain$Keeper"
def TX3 : u_T := fun k => match k with
  | 0 => ("DecisionChain$Keeper", "changes", "I", false)
  | 1 => ("DecisionChain$Keeper", "before", "[LDecisionChain$Settings;", true)
  | 2 => ("DecisionChain$Keeper", "slots", "[LDecisionChain$Settings;", true)
  | _ => ("DecisionChain$Keeper", "full", "I", false)
def tyX3 : Nat → FieldType := fun k => match k with
  | 0 => .int
  | 1 => .array (.object "DecisionChain$Settings")
  | 2 => .array (.object "DecisionChain$Settings")
  | _ => .int
theorem nmX3 : ∀ a, a < 4 → ∀ b, b < 4 → a ≠ b → (TX3 a).2.1 ≠ (TX3 b).2.1 := by decide +kernel
theorem tyX3_ok : ∀ k, k < 4 → parseFieldDescriptor (TX3 k).2.2.1 = some (tyX3 k) := by decide +kernel
abbrev cX3_init : ByteArray := prog_5_method_1_code
def yX3_init : MethodName := ⟨RX3, "<init>", "()V"⟩
abbrev cX3_forget : ByteArray := prog_5_method_2_code
def yX3_forget : MethodName := ⟨RX3, "forget", "()V"⟩
abbrev cX3_keep : ByteArray := prog_5_method_3_code
def yX3_keep : MethodName := ⟨RX3, "keep", "(LDecisionChain$Settings;)V"⟩
abbrev cX3_giveBack : ByteArray := prog_5_method_4_code
def yX3_giveBack : MethodName := ⟨RX3, "giveBack", "(LDecisionChain$Settings;)V"⟩
abbrev cX3_dropOldest : ByteArray := prog_5_method_5_code
def yX3_dropOldest : MethodName := ⟨RX3, "dropOldest", "()V"⟩
abbrev cX3_isFull : ByteArray := prog_5_method_6_code
def yX3_isFull : MethodName := ⟨RX3, "isFull", "(I)Z"⟩
abbrev cX3_put : ByteArray := prog_5_method_7_code
def yX3_put : MethodName := ⟨RX3, "put", "(ILDecisionChain$Settings;)V"⟩
abbrev cX3_take : ByteArray := prog_5_method_8_code
def yX3_take : MethodName := ⟨RX3, "take", "(ILDecisionChain$Settings;)V"⟩
def RX4 : String := "DecisionChain$Parser"
def TX4 : u_T := fun k => match k with
  | 0 => ("DecisionChain$Parser", "chain", "LDecisionChain$Chain;", true)
  | 1 => ("DecisionChain$Parser", "settings", "LDecisionChain$Settings;", true)
  | 2 => ("DecisionChain$Parser", "error", "I", false)
  | 3 => ("DecisionChain$Parser", "errorAt", "I", false)
  | 4 => ("DecisionChain$Parser", "input", "LDecisionChain$Input;", true)
  | 5 => ("DecisionChain$Parser", "taken", "I", false)
  | _ => ("DecisionChain$Parser", "ruled", "I", false)
def tyX4 : Nat → FieldType := fun k => match k with
  | 0 => .object "DecisionChain$Chain"
  | 1 => .object "DecisionChain$Settings"
  | 2 => .int
  | 3 => .int
  | 4 => .object "DecisionChain$Input"
  | 5 => .int
  | _ => .int
theorem nmX4 : ∀ a, a < 7 → ∀ b, b < 7 → a ≠ b → (TX4 a).2.1 ≠ (TX4 b).2.1 := by decide +kernel
theorem tyX4_ok : ∀ k, k < 7 → parseFieldDescriptor (TX4 k).2.2.1 = some (tyX4 k) := by decide +kernel
abbrev cX4_init : ByteArray := prog_6_method_1_code
def yX4_init : MethodName := ⟨RX4, "<init>", "(LDecisionChain$Input;)V"⟩
abbrev cX4_parse : ByteArray := prog_6_method_2_code
def yX4_parse : MethodName := ⟨RX4, "parse", "(I)Z"⟩
abbrev cX4_fail : ByteArray := prog_6_method_3_code
def yX4_fail : MethodName := ⟨RX4, "fail", "(I)Z"⟩
abbrev cX4_takeWord : ByteArray := prog_6_method_4_code
def yX4_takeWord : MethodName := ⟨RX4, "takeWord", "(Ljava/lang/String;)Z"⟩
abbrev cX4_seeNumber : ByteArray := prog_6_method_5_code
def yX4_seeNumber : MethodName := ⟨RX4, "seeNumber", "(II)Z"⟩
abbrev cX4_takeNumber : ByteArray := prog_6_method_6_code
def yX4_takeNumber : MethodName := ⟨RX4, "takeNumber", "(II)Z"⟩
abbrev cX4_seeState : ByteArray := prog_6_method_7_code
def yX4_seeState : MethodName := ⟨RX4, "seeState", "()Z"⟩
abbrev cX4_parseHead : ByteArray := prog_6_method_8_code
def yX4_parseHead : MethodName := ⟨RX4, "parseHead", "()Z"⟩
abbrev cX4_parseLine : ByteArray := prog_6_method_9_code
def yX4_parseLine : MethodName := ⟨RX4, "parseLine", "()Z"⟩
abbrev cX4_parseBudget : ByteArray := prog_6_method_10_code
def yX4_parseBudget : MethodName := ⟨RX4, "parseBudget", "()Z"⟩
abbrev cX4_parseStart : ByteArray := prog_6_method_11_code
def yX4_parseStart : MethodName := ⟨RX4, "parseStart", "()Z"⟩
abbrev cX4_parseAct : ByteArray := prog_6_method_12_code
def yX4_parseAct : MethodName := ⟨RX4, "parseAct", "()Z"⟩
abbrev cX4_parseGain : ByteArray := prog_6_method_13_code
def yX4_parseGain : MethodName := ⟨RX4, "parseGain", "(I)Z"⟩
abbrev cX4_parseUses : ByteArray := prog_6_method_14_code
def yX4_parseUses : MethodName := ⟨RX4, "parseUses", "(I)Z"⟩
abbrev cX4_parsePercents : ByteArray := prog_6_method_15_code
def yX4_parsePercents : MethodName := ⟨RX4, "parsePercents", "(I)Z"⟩
abbrev cX4_parseRule : ByteArray := prog_6_method_16_code
def yX4_parseRule : MethodName := ⟨RX4, "parseRule", "()Z"⟩
abbrev cX4_parseWeights : ByteArray := prog_6_method_17_code
def yX4_parseWeights : MethodName := ⟨RX4, "parseWeights", "(I)Z"⟩
abbrev cX4_endLine : ByteArray := prog_6_method_18_code
def yX4_endLine : MethodName := ⟨RX4, "endLine", "(I)Z"⟩
abbrev cX4_checkStates : ByteArray := prog_6_method_19_code
def yX4_checkStates : MethodName := ⟨RX4, "checkStates", "()Z"⟩
def RX5 : String := "DecisionChain$PureSets"
def TX5 : u_T := fun k => match k with
  | 0 => ("DecisionChain$PureSets", "chain", "LDecisionChain$Chain;", true)
  | 1 => ("DecisionChain$PureSets", "now", "LDecisionChain$Settings;", true)
  | 2 => ("DecisionChain$PureSets", "flows", "LDecisionChain$Flows;", true)
  | 3 => ("DecisionChain$PureSets", "gains", "[J", true)
  | 4 => ("DecisionChain$PureSets", "used", "[J", true)
  | 5 => ("DecisionChain$PureSets", "madeStart", "I", false)
  | 6 => ("DecisionChain$PureSets", "madeHorizon", "I", false)
  | 7 => ("DecisionChain$PureSets", "set", "I", false)
  | 8 => ("DecisionChain$PureSets", "choice", "[I", true)
  | 9 => ("DecisionChain$PureSets", "weights", "[I", true)
  | _ => ("DecisionChain$PureSets", "best", "[I", true)
def tyX5 : Nat → FieldType := fun k => match k with
  | 0 => .object "DecisionChain$Chain"
  | 1 => .object "DecisionChain$Settings"
  | 2 => .object "DecisionChain$Flows"
  | 3 => .array .long
  | 4 => .array .long
  | 5 => .int
  | 6 => .int
  | 7 => .int
  | 8 => .array .int
  | 9 => .array .int
  | _ => .array .int
theorem nmX5 : ∀ a, a < 11 → ∀ b, b < 11 → a ≠ b → (TX5 a).2.1 ≠ (TX5 b).2.1 := by decide +kernel
theorem tyX5_ok : ∀ k, k < 11 → parseFieldDescriptor (TX5 k).2.2.1 = some (tyX5 k) := by decide +kernel
abbrev cX5_init : ByteArray := prog_7_method_1_code
def yX5_init : MethodName := ⟨RX5, "<init>", "(LDecisionChain$Chain;LDecisionChain$Settings;LDecisionChain$Flows;)V"⟩
abbrev cX5_forget : ByteArray := prog_7_method_2_code
def yX5_forget : MethodName := ⟨RX5, "forget", "()V"⟩
abbrev cX5_findBest : ByteArray := prog_7_method_3_code
def yX5_findBest : MethodName := ⟨RX5, "findBest", "(II)J"⟩
abbrev cX5_writeWeights : ByteArray := prog_7_method_6_code
def yX5_writeWeights : MethodName := ⟨RX5, "writeWeights", "([I[I)V"⟩
abbrev cX5_fill : ByteArray := prog_7_method_7_code
def yX5_fill : MethodName := ⟨RX5, "fill", "()V"⟩
abbrev cX5_begin : ByteArray := prog_7_method_8_code
def yX5_begin : MethodName := ⟨RX5, "begin", "()Z"⟩
abbrev cX5_moveOn : ByteArray := prog_7_method_9_code
def yX5_moveOn : MethodName := ⟨RX5, "moveOn", "()Z"⟩
abbrev cX5_isPermittedSet : ByteArray := prog_7_method_10_code
def yX5_isPermittedSet : MethodName := ⟨RX5, "isPermittedSet", "()Z"⟩
abbrev cX5_holds : ByteArray := prog_7_method_11_code
def yX5_holds : MethodName := ⟨RX5, "holds", "(II)Z"⟩
def RX6 : String := "DecisionChain$Report"
def TX6 : u_T := fun k => match k with
  | 0 => ("DecisionChain$Report", "bytes", "[B", true)
  | _ => ("DecisionChain$Report", "length", "I", false)
def tyX6 : Nat → FieldType := fun k => match k with
  | 0 => .array .byte
  | _ => .int
theorem nmX6 : ∀ a, a < 2 → ∀ b, b < 2 → a ≠ b → (TX6 a).2.1 ≠ (TX6 b).2.1 := by decide +kernel
theorem tyX6_ok : ∀ k, k < 2 → parseFieldDescriptor (TX6 k).2.2.1 = some (tyX6 k) := by decide +kernel
abbrev cX6_init : ByteArray := prog_8_method_1_code
def yX6_init : MethodName := ⟨RX6, "<init>", "()V"⟩
def RX7 : String := "DecisionChain$Settings"
def TX7 : u_T := fun k => match k with
  | 0 => ("DecisionChain$Settings", "weights", "[I", true)
  | 1 => ("DecisionChain$Settings", "permitted", "[I", true)
  | 2 => ("DecisionChain$Settings", "limits", "[I", true)
  | 3 => ("DecisionChain$Settings", "start", "I", false)
  | 4 => ("DecisionChain$Settings", "horizon", "I", false)
  | 5 => ("DecisionChain$Settings", "seed", "I", false)
  | 6 => ("DecisionChain$Settings", "walkSteps", "I", false)
  | 7 => ("DecisionChain$Settings", "walkStates", "[I", true)
  | _ => ("DecisionChain$Settings", "walkActions", "[I", true)
def tyX7 : Nat → FieldType := fun k => match k with
  | 0 => .array .int
  | 1 => .array .int
  | 2 => .array .int
  | 3 => .int
  | 4 => .int
  | 5 => .int
  | 6 => .int
  | 7 => .array .int
  | _ => .array .int
theorem nmX7 : ∀ a, a < 9 → ∀ b, b < 9 → a ≠ b → (TX7 a).2.1 ≠ (TX7 b).2.1 := by decide +kernel
theorem tyX7_ok : ∀ k, k < 9 → parseFieldDescriptor (TX7 k).2.2.1 = some (tyX7 k) := by decide +kernel
abbrev cX7_init : ByteArray := prog_9_method_1_code
def yX7_init : MethodName := ⟨RX7, "<init>", "()V"⟩
abbrev cX7_clear : ByteArray := prog_9_method_2_code
def yX7_clear : MethodName := ⟨RX7, "clear", "()V"⟩
abbrev cX7_copyFrom : ByteArray := prog_9_method_3_code
def yX7_copyFrom : MethodName := ⟨RX7, "copyFrom", "(LDecisionChain$Settings;)V"⟩
abbrev cX7_permits : ByteArray := prog_9_method_4_code
def yX7_permits : MethodName := ⟨RX7, "permits", "(II)Z"⟩
abbrev cX7_walkRow : ByteArray := prog_9_method_5_code
def yX7_walkRow : MethodName := ⟨RX7, "walkRow", "(I)I"⟩
def RX8 : String := "DecisionChain$Spending"
def TX8 : u_T := fun k => match k with
  | 0 => ("DecisionChain$Spending", "chain", "LDecisionChain$Chain;", true)
  | 1 => ("DecisionChain$Spending", "here", "[J", false)
  | 2 => ("DecisionChain$Spending", "later", "[J", false)
  | _ => ("DecisionChain$Spending", "greatest", "[I", true)
def tyX8 : Nat → FieldType := fun k => match k with
  | 0 => .object "DecisionChain$Chain"
  | 1 => .array .long
  | 2 => .array .long
  | _ => .array .int
theorem nmX8 : ∀ a, a < 4 → ∀ b, b < 4 → a ≠ b → (TX8 a).2.1 ≠ (TX8 b).2.1 := by decide +kernel
theorem tyX8_ok : ∀ k, k < 4 → parseFieldDescriptor (TX8 k).2.2.1 = some (tyX8 k) := by decide +kernel
abbrev cX8_init : ByteArray := prog_10_method_1_code
def yX8_init : MethodName := ⟨RX8, "<init>", "(LDecisionChain$Chain;)V"⟩
def RX9 : String := "DecisionChain$Values"
def TX9 : u_T := fun k => match k with
  | 0 => ("DecisionChain$Values", "chain", "LDecisionChain$Chain;", true)
  | 1 => ("DecisionChain$Values", "now", "LDecisionChain$Settings;", true)
  | _ => ("DecisionChain$Values", "values", "[J", true)
def tyX9 : Nat → FieldType := fun k => match k with
  | 0 => .object "DecisionChain$Chain"
  | 1 => .object "DecisionChain$Settings"
  | _ => .array .long
theorem nmX9 : ∀ a, a < 3 → ∀ b, b < 3 → a ≠ b → (TX9 a).2.1 ≠ (TX9 b).2.1 := by decide +kernel
theorem tyX9_ok : ∀ k, k < 3 → parseFieldDescriptor (TX9 k).2.2.1 = some (tyX9 k) := by decide +kernel
abbrev cX9_init : ByteArray := prog_11_method_1_code
def yX9_init : MethodName := ⟨RX9, "<init>", "(LDecisionChain$Chain;LDecisionChain$Settings;)V"⟩
abbrev cX9_fill : ByteArray := prog_11_method_2_code
def yX9_fill : MethodName := ⟨RX9, "fill", "()V"⟩
abbrev cX9_of : ByteArray := prog_11_method_3_code
def yX9_of : MethodName := ⟨RX9, "of", "(II)J"⟩
abbrev cX9_firstAction : ByteArray := prog_11_method_4_code
def yX9_firstAction : MethodName := ⟨RX9, "firstAction", "(II)I"⟩
abbrev cX9_valueOver : ByteArray := prog_11_method_5_code
def yX9_valueOver : MethodName := ⟨RX9, "valueOver", "(II)J"⟩
def RX10 : String := "DecisionChain$Walker"
def TX10 : u_T := fun k => match k with
  | 0 => ("DecisionChain$Walker", "chain", "LDecisionChain$Chain;", true)
  | 1 => ("DecisionChain$Walker", "seed", "I", false)
  | 2 => ("DecisionChain$Walker", "state", "I", false)
  | _ => ("DecisionChain$Walker", "action", "I", false)
def tyX10 : Nat → FieldType := fun k => match k with
  | 0 => .object "DecisionChain$Chain"
  | 1 => .int
  | 2 => .int
  | _ => .int
theorem nmX10 : ∀ a, a < 4 → ∀ b, b < 4 → a ≠ b → (TX10 a).2.1 ≠ (TX10 b).2.1 := by decide +kernel
theorem tyX10_ok : ∀ k, k < 4 → parseFieldDescriptor (TX10 k).2.2.1 = some (tyX10 k) := by decide +kernel
abbrev cX10_init : ByteArray := prog_12_method_1_code
def yX10_init : MethodName := ⟨RX10, "<init>", "(LDecisionChain$Chain;)V"⟩
abbrev cX10_step : ByteArray := prog_12_method_2_code
def yX10_step : MethodName := ⟨RX10, "step", "([I)V"⟩
abbrev cX10_gainOfNext : ByteArray := prog_12_method_3_code
def yX10_gainOfNext : MethodName := ⟨RX10, "gainOfNext", "(LDecisionChain$Settings;)I"⟩
abbrev cX10_draw : ByteArray := prog_12_method_4_code
def yX10_draw : MethodName := ⟨RX10, "draw", "()I"⟩
abbrev cX10_drawAction : ByteArray := prog_12_method_5_code
def yX10_drawAction : MethodName := ⟨RX10, "drawAction", "([II)I"⟩
abbrev cX10_drawNext : ByteArray := prog_12_method_6_code
def yX10_drawNext : MethodName := ⟨RX10, "drawNext", "(II)I"⟩
def RX11 : String := "DecisionChain"
def TX11 : u_T := fun k => match k with
  | 0 => ("DecisionChain", "input", "LDecisionChain$Input;", true)
  | 1 => ("DecisionChain", "parser", "LDecisionChain$Parser;", true)
  | 2 => ("DecisionChain", "chain", "LDecisionChain$Chain;", true)
  | 3 => ("DecisionChain", "now", "LDecisionChain$Settings;", true)
  | 4 => ("DecisionChain", "keeper", "LDecisionChain$Keeper;", true)
  | 5 => ("DecisionChain", "flows", "LDecisionChain$Flows;", true)
  | 6 => ("DecisionChain", "spending", "LDecisionChain$Spending;", true)
  | 7 => ("DecisionChain", "pure", "LDecisionChain$PureSets;", true)
  | 8 => ("DecisionChain", "values", "LDecisionChain$Values;", true)
  | 9 => ("DecisionChain", "walker", "LDecisionChain$Walker;", true)
  | 10 => ("DecisionChain", "text", "LDecisionChain$Report;", true)
  | _ => ("DecisionChain", "trial", "[I", true)
def tyX11 : Nat → FieldType := fun k => match k with
  | 0 => .object "DecisionChain$Input"
  | 1 => .object "DecisionChain$Parser"
  | 2 => .object "DecisionChain$Chain"
  | 3 => .object "DecisionChain$Settings"
  | 4 => .object "DecisionChain$Keeper"
  | 5 => .object "DecisionChain$Flows"
  | 6 => .object "DecisionChain$Spending"
  | 7 => .object "DecisionChain$PureSets"
  | 8 => .object "DecisionChain$Values"
  | 9 => .object "DecisionChain$Walker"
  | 10 => .object "DecisionChain$Report"
  | _ => .array .int
theorem nmX11 : ∀ a, a < 12 → ∀ b, b < 12 → a ≠ b → (TX11 a).2.1 ≠ (TX11 b).2.1 := by decide +kernel
theorem tyX11_ok : ∀ k, k < 12 → parseFieldDescriptor (TX11 k).2.2.1 = some (tyX11 k) := by decide +kernel
abbrev cX11_init : ByteArray := prog_1_method_1_code
def yX11_init : MethodName := ⟨RX11, "<init>", "()V"⟩
abbrev cX11_append : ByteArray := prog_1_method_2_code
def yX11_append : MethodName := ⟨RX11, "append", "(IIIII)I"⟩
abbrev cX11_load : ByteArray := prog_1_method_3_code
def yX11_load : MethodName := ⟨RX11, "load", "(I)I"⟩
abbrev cX11_parseError : ByteArray := prog_1_method_4_code
def yX11_parseError : MethodName := ⟨RX11, "parseError", "()I"⟩
abbrev cX11_errorPosition : ByteArray := prog_1_method_5_code
def yX11_errorPosition : MethodName := ⟨RX11, "errorPosition", "()I"⟩
abbrev cX11_states : ByteArray := prog_1_method_7_code
def yX11_states : MethodName := ⟨RX11, "states", "()I"⟩
abbrev cX11_budgets : ByteArray := prog_1_method_8_code
def yX11_budgets : MethodName := ⟨RX11, "budgets", "()I"⟩
abbrev cX11_horizon : ByteArray := prog_1_method_9_code
def yX11_horizon : MethodName := ⟨RX11, "horizon", "()I"⟩
abbrev cX11_start : ByteArray := prog_1_method_10_code
def yX11_start : MethodName := ⟨RX11, "start", "()I"⟩
abbrev cX11_actions : ByteArray := prog_1_method_11_code
def yX11_actions : MethodName := ⟨RX11, "actions", "(I)I"⟩
abbrev cX11_gain : ByteArray := prog_1_method_12_code
def yX11_gain : MethodName := ⟨RX11, "gain", "(II)I"⟩
abbrev cX11_uses : ByteArray := prog_1_method_13_code
def yX11_uses : MethodName := ⟨RX11, "uses", "(III)I"⟩
abbrev cX11_percent : ByteArray := prog_1_method_14_code
def yX11_percent : MethodName := ⟨RX11, "percent", "(III)I"⟩
abbrev cX11_weight : ByteArray := prog_1_method_15_code
def yX11_weight : MethodName := ⟨RX11, "weight", "(II)I"⟩
abbrev cX11_isPermitted : ByteArray := prog_1_method_16_code
def yX11_isPermitted : MethodName := ⟨RX11, "isPermitted", "(II)Z"⟩
abbrev cX11_limit : ByteArray := prog_1_method_17_code
def yX11_limit : MethodName := ⟨RX11, "limit", "(I)I"⟩
abbrev cX11_reach : ByteArray := prog_1_method_18_code
def yX11_reach : MethodName := ⟨RX11, "reach", "(I)I"⟩
abbrev cX11_isClosed : ByteArray := prog_1_method_19_code
def yX11_isClosed : MethodName := ⟨RX11, "isClosed", "(I)Z"⟩
abbrev cX11_flow : ByteArray := prog_1_method_20_code
def yX11_flow : MethodName := ⟨RX11, "flow", "(II)J"⟩
abbrev cX11_use : ByteArray := prog_1_method_21_code
def yX11_use : MethodName := ⟨RX11, "use", "(III)J"⟩
abbrev cX11_visits : ByteArray := prog_1_method_22_code
def yX11_visits : MethodName := ⟨RX11, "visits", "(I)J"⟩
abbrev cX11_hit : ByteArray := prog_1_method_23_code
def yX11_hit : MethodName := ⟨RX11, "hit", "(I)J"⟩
abbrev cX11_unit : ByteArray := prog_1_method_24_code
def yX11_unit : MethodName := ⟨RX11, "unit", "()J"⟩
abbrev cX11_gainOfRun : ByteArray := prog_1_method_25_code
def yX11_gainOfRun : MethodName := ⟨RX11, "gainOfRun", "()J"⟩
abbrev cX11_usedOfRun : ByteArray := prog_1_method_26_code
def yX11_usedOfRun : MethodName := ⟨RX11, "usedOfRun", "(I)J"⟩
abbrev cX11_left : ByteArray := prog_1_method_27_code
def yX11_left : MethodName := ⟨RX11, "left", "(I)J"⟩
abbrev cX11_broken : ByteArray := prog_1_method_28_code
def yX11_broken : MethodName := ⟨RX11, "broken", "()I"⟩
abbrev cX11_firstTime : ByteArray := prog_1_method_31_code
def yX11_firstTime : MethodName := ⟨RX11, "firstTime", "(I)I"⟩
abbrev cX11_busiest : ByteArray := prog_1_method_32_code
def yX11_busiest : MethodName := ⟨RX11, "busiest", "(I)I"⟩
abbrev cX11_meanGain : ByteArray := prog_1_method_33_code
def yX11_meanGain : MethodName := ⟨RX11, "meanGain", "()F"⟩
abbrev cX11_likeliestAt : ByteArray := prog_1_method_35_code
def yX11_likeliestAt : MethodName := ⟨RX11, "likeliestAt", "(I)I"⟩
abbrev cX11_value : ByteArray := prog_1_method_36_code
def yX11_value : MethodName := ⟨RX11, "value", "(II)J"⟩
abbrev cX11_valueAction : ByteArray := prog_1_method_37_code
def yX11_valueAction : MethodName := ⟨RX11, "valueAction", "(II)I"⟩
abbrev cX11_worth : ByteArray := prog_1_method_41_code
def yX11_worth : MethodName := ⟨RX11, "worth", "(II)J"⟩
abbrev cX11_bestWeight : ByteArray := prog_1_method_43_code
def yX11_bestWeight : MethodName := ⟨RX11, "bestWeight", "(III)I"⟩
abbrev cX11_seed : ByteArray := prog_1_method_44_code
def yX11_seed : MethodName := ⟨RX11, "seed", "()I"⟩
abbrev cX11_walked : ByteArray := prog_1_method_45_code
def yX11_walked : MethodName := ⟨RX11, "walked", "(I)I"⟩
abbrev cX11_walkedBy : ByteArray := prog_1_method_46_code
def yX11_walkedBy : MethodName := ⟨RX11, "walkedBy", "(I)I"⟩
abbrev cX11_walkGain : ByteArray := prog_1_method_47_code
def yX11_walkGain : MethodName := ⟨RX11, "walkGain", "()I"⟩
abbrev cX11_gainOfWalks : ByteArray := prog_1_method_49_code
def yX11_gainOfWalks : MethodName := ⟨RX11, "gainOfWalks", "(I)I"⟩
abbrev cX11_reportByte : ByteArray := prog_1_method_51_code
def yX11_reportByte : MethodName := ⟨RX11, "reportByte", "(I)I"⟩
abbrev cX11_setRule : ByteArray := prog_1_method_52_code
def yX11_setRule : MethodName := ⟨RX11, "setRule", "(IIII)I"⟩
abbrev cX11_takeBest : ByteArray := prog_1_method_53_code
def yX11_takeBest : MethodName := ⟨RX11, "takeBest", "()I"⟩
abbrev cX11_permit : ByteArray := prog_1_method_54_code
def yX11_permit : MethodName := ⟨RX11, "permit", "(IIZ)Z"⟩
abbrev cX11_setLimit : ByteArray := prog_1_method_55_code
def yX11_setLimit : MethodName := ⟨RX11, "setLimit", "(II)I"⟩
abbrev cX11_setStart : ByteArray := prog_1_method_56_code
def yX11_setStart : MethodName := ⟨RX11, "setStart", "(I)I"⟩
abbrev cX11_setHorizon : ByteArray := prog_1_method_57_code
def yX11_setHorizon : MethodName := ⟨RX11, "setHorizon", "(I)I"⟩
abbrev cX11_walk : ByteArray := prog_1_method_58_code
def yX11_walk : MethodName := ⟨RX11, "walk", "()I"⟩
abbrev cX11_undo : ByteArray := prog_1_method_59_code
def yX11_undo : MethodName := ⟨RX11, "undo", "()I"⟩
abbrev cX11_undoable : ByteArray := prog_1_method_60_code
def yX11_undoable : MethodName := ⟨RX11, "undoable", "()I"⟩
abbrev cX11_save : ByteArray := prog_1_method_61_code
def yX11_save : MethodName := ⟨RX11, "save", "(I)I"⟩
abbrev cX11_restore : ByteArray := prog_1_method_62_code
def yX11_restore : MethodName := ⟨RX11, "restore", "(I)I"⟩
abbrev cX11_needChain : ByteArray := prog_1_method_63_code
def yX11_needChain : MethodName := ⟨RX11, "needChain", "()V"⟩
abbrev cX11_needState : ByteArray := prog_1_method_64_code
def yX11_needState : MethodName := ⟨RX11, "needState", "(I)V"⟩
abbrev cX11_needAction : ByteArray := prog_1_method_65_code
def yX11_needAction : MethodName := ⟨RX11, "needAction", "(II)V"⟩
abbrev cX11_needBudget : ByteArray := prog_1_method_66_code
def yX11_needBudget : MethodName := ⟨RX11, "needBudget", "(I)V"⟩
abbrev cX11_needTime : ByteArray := prog_1_method_67_code
def yX11_needTime : MethodName := ⟨RX11, "needTime", "(I)V"⟩
abbrev cX11_needWalk : ByteArray := prog_1_method_68_code
def yX11_needWalk : MethodName := ⟨RX11, "needWalk", "()V"⟩
abbrev cX11_needSlot : ByteArray := prog_1_method_69_code
def yX11_needSlot : MethodName := ⟨RX11, "needSlot", "(I)V"⟩
abbrev cX11_needRange : ByteArray := prog_1_method_70_code
def yX11_needRange : MethodName := ⟨RX11, "needRange", "(III)V"⟩
abbrev cX11_rowOf : ByteArray := prog_1_method_71_code
def yX11_rowOf : MethodName := ⟨RX11, "rowOf", "(II)I"⟩
abbrev cX11_copyRow : ByteArray := prog_1_method_72_code
def yX11_copyRow : MethodName := ⟨RX11, "copyRow", "([I[I)V"⟩
abbrev cX11_setWeights : ByteArray := prog_1_method_73_code
def yX11_setWeights : MethodName := ⟨RX11, "setWeights", "([IIIII)V"⟩
abbrev cX11_unitOf : ByteArray := prog_1_method_74_code
def yX11_unitOf : MethodName := ⟨RX11, "unitOf", "(I)J"⟩
abbrev cX11_followRules : ByteArray := prog_1_method_75_code
def yX11_followRules : MethodName := ⟨RX11, "followRules", "()V"⟩
abbrev cX11_brokenWith : ByteArray := prog_1_method_76_code
def yX11_brokenWith : MethodName := ⟨RX11, "brokenWith", "([I)I"⟩
def RX12 : String := "DecisionChainLaw$Chain"
def TX12 : u_T := fun k => match k with
  | 0 => ("DecisionChainLaw$Chain", "text", "Ljava/lang/StringBuilder;", true)
  | 1 => ("DecisionChainLaw$Chain", "states", "I", true)
  | 2 => ("DecisionChainLaw$Chain", "budgets", "I", true)
  | 3 => ("DecisionChainLaw$Chain", "horizon", "I", false)
  | 4 => ("DecisionChainLaw$Chain", "seed", "I", false)
  | 5 => ("DecisionChainLaw$Chain", "start", "I", false)
  | 6 => ("DecisionChainLaw$Chain", "limit", "[I", true)
  | 7 => ("DecisionChainLaw$Chain", "many", "[I", true)
  | 8 => ("DecisionChainLaw$Chain", "gain", "[[I", true)
  | 9 => ("DecisionChainLaw$Chain", "weight", "[[I", true)
  | 10 => ("DecisionChainLaw$Chain", "uses", "[[[I", true)
  | 11 => ("DecisionChainLaw$Chain", "percent", "[[[I", true)
  | 12 => ("DecisionChainLaw$Chain", "order", "[[[I", true)
  | 13 => ("DecisionChainLaw$Chain", "isPermitted", "[[Z", true)
  | 14 => ("DecisionChainLaw$Chain", "steps", "I", false)
  | 15 => ("DecisionChainLaw$Chain", "walk", "[I", true)
  | _ => ("DecisionChainLaw$Chain", "by", "[I", true)
def tyX12 : Nat → FieldType := fun k => match k with
  | 0 => .object "java/lang/StringBuilder"
  | 1 => .int
  | 2 => .int
  | 3 => .int
  | 4 => .int
  | 5 => .int
  | 6 => .array .int
  | 7 => .array .int
  | 8 => .array (.array .int)
  | 9 => .array (.array .int)
  | 10 => .array (.array (.array .int))
  | 11 => .array (.array (.array .int))
  | 12 => .array (.array (.array .int))
  | 13 => .array (.array .boolean)
  | 14 => .int
  | 15 => .array .int
  | _ => .array .int
theorem nmX12 : ∀ a, a < 17 → ∀ b, b < 17 → a ≠ b → (TX12 a).2.1 ≠ (TX12 b).2.1 := by decide +kernel
theorem tyX12_ok : ∀ k, k < 17 → parseFieldDescriptor (TX12 k).2.2.1 = some (tyX12 k) := by decide +kernel
abbrev cX12_init : ByteArray := prog_14_method_1_code
def yX12_init : MethodName := ⟨RX12, "<init>", "(LDecisionChainLaw$Draws;)V"⟩
abbrev cX12_act : ByteArray := prog_14_method_2_code
def yX12_act : MethodName := ⟨RX12, "act", "(LDecisionChainLaw$Draws;II)V"⟩
abbrev cX12_rule : ByteArray := prog_14_method_3_code
def yX12_rule : MethodName := ⟨RX12, "rule", "(LDecisionChainLaw$Draws;I)V"⟩
abbrev cX12_step : ByteArray := prog_14_method_4_code
def yX12_step : MethodName := ⟨RX12, "step", "(II)I"⟩
abbrev cX12_flow : ByteArray := prog_14_method_5_code
def yX12_flow : MethodName := ⟨RX12, "flow", "(II)J"⟩
abbrev cX12_mean : ByteArray := prog_14_method_6_code
def yX12_mean : MethodName := ⟨RX12, "mean", "(III)J"⟩
abbrev cX12_unit : ByteArray := prog_14_method_7_code
def yX12_unit : MethodName := ⟨RX12, "unit", "()J"⟩
abbrev cX12_draw : ByteArray := prog_14_method_9_code
def yX12_draw : MethodName := ⟨RX12, "draw", "(I)I"⟩
abbrev cX12_go : ByteArray := prog_14_method_10_code
def yX12_go : MethodName := ⟨RX12, "go", "()I"⟩
def RX13 : String := "DecisionChainLaw$Draws"
def TX13 : u_T := fun k => match k with
  | 0 => ("DecisionChainLaw$Draws", "cells", "[I", true)
  | _ => ("DecisionChainLaw$Draws", "at", "I", false)
def tyX13 : Nat → FieldType := fun k => match k with
  | 0 => .array .int
  | _ => .int
theorem nmX13 : ∀ a, a < 2 → ∀ b, b < 2 → a ≠ b → (TX13 a).2.1 ≠ (TX13 b).2.1 := by decide +kernel
theorem tyX13_ok : ∀ k, k < 2 → parseFieldDescriptor (TX13 k).2.2.1 = some (tyX13 k) := by decide +kernel
abbrev cX13_init : ByteArray := prog_15_method_1_code
def yX13_init : MethodName := ⟨RX13, "<init>", "([I)V"⟩
abbrev cX13_next : ByteArray := prog_15_method_2_code
def yX13_next : MethodName := ⟨RX13, "next", "(II)I"⟩
def RX14 : String := "DecisionChainModel"
def TX14 : u_T := fun k => match k with
  | _ => ("", "", "", false)
def tyX14 : Nat → FieldType := fun k => match k with
  | _ => .int
theorem nmX14 : ∀ a, a < 0 → ∀ b, b < 0 → a ≠ b → (TX14 a).2.1 ≠ (TX14 b).2.1 := by decide +kernel
theorem tyX14_ok : ∀ k, k < 0 → parseFieldDescriptor (TX14 k).2.2.1 = some (tyX14 k) := by decide +kernel
def RJ5 : String := "java/lang/AbstractStringBuilder"
def TJ5 : u_T := fun k => match k with
  | _ => ("", "", "", false)
def tyJ5 : Nat → FieldType := fun k => match k with
  | _ => .int
theorem nmJ5 : ∀ a, a < 0 → ∀ b, b < 0 → a ≠ b → (TJ5 a).2.1 ≠ (TJ5 b).2.1 := by decide +kernel
theorem tyJ5_ok : ∀ k, k < 0 → parseFieldDescriptor (TJ5 k).2.2.1 = some (tyJ5 k) := by decide +kernel
abbrev cJ5_init_d00df : ByteArray := prog_17_method_2_code
def yJ5_init_d00df : MethodName := ⟨RJ5, "<init>", "(I)V"⟩
abbrev cJ5_init_a7421 : ByteArray := prog_17_method_3_code
def yJ5_init_a7421 : MethodName := ⟨RJ5, "<init>", "(Ljava/lang/String;)V"⟩
abbrev cJ5_length_8abf5 : ByteArray := prog_17_method_6_code
def yJ5_length_8abf5 : MethodName := ⟨RJ5, "length", "()I"⟩
abbrev cJ5_ensureCapacityInternal_d00df : ByteArray := prog_17_method_9_code
def yJ5_ensureCapacityInternal_d00df : MethodName := ⟨RJ5, "ensureCapacityInternal", "(I)V"⟩
abbrev cJ5_newCapacity_0f7a4 : ByteArray := prog_17_method_10_code
def yJ5_newCapacity_0f7a4 : MethodName := ⟨RJ5, "newCapacity", "(I)I"⟩
abbrev cJ5_inflate_da8c8 : ByteArray := prog_17_method_11_code
def yJ5_inflate_da8c8 : MethodName := ⟨RJ5, "inflate", "()V"⟩
abbrev cJ5_append_cf1ce : ByteArray := prog_17_method_22_code
def yJ5_append_cf1ce : MethodName := ⟨RJ5, "append", "(Ljava/lang/String;)Ljava/lang/AbstractStringBuilder;"⟩
abbrev cJ5_appendNull_278bc : ByteArray := prog_17_method_26_code
def yJ5_appendNull_278bc : MethodName := ⟨RJ5, "appendNull", "()Ljava/lang/AbstractStringBuilder;"⟩
abbrev cJ5_append_3fe6f : ByteArray := prog_17_method_31_code
def yJ5_append_3fe6f : MethodName := ⟨RJ5, "append", "(C)Ljava/lang/AbstractStringBuilder;"⟩
abbrev cJ5_append_c97b9 : ByteArray := prog_17_method_32_code
def yJ5_append_c97b9 : MethodName := ⟨RJ5, "append", "(I)Ljava/lang/AbstractStringBuilder;"⟩
abbrev cJ5_getValue_6d5f1 : ByteArray := prog_17_method_64_code
def yJ5_getValue_6d5f1 : MethodName := ⟨RJ5, "getValue", "()[B"⟩
abbrev cJ5_isLatin1_aae02 : ByteArray := prog_17_method_68_code
def yJ5_isLatin1_aae02 : MethodName := ⟨RJ5, "isLatin1", "()Z"⟩
abbrev cJ5_inflateIfNeededFor_a7421 : ByteArray := prog_17_method_71_code
def yJ5_inflateIfNeededFor_a7421 : MethodName := ⟨RJ5, "inflateIfNeededFor", "(Ljava/lang/String;)V"⟩
abbrev cJ5_putStringAt_47b60 : ByteArray := prog_17_method_73_code
def yJ5_putStringAt_47b60 : MethodName := ⟨RJ5, "putStringAt", "(ILjava/lang/String;)V"⟩
def RJ6 : String := "java/lang/Integer"
def TJ6 : u_T := fun k => match k with
  | _ => ("", "", "", false)
def tyJ6 : Nat → FieldType := fun k => match k with
  | _ => .int
theorem nmJ6 : ∀ a, a < 0 → ∀ b, b < 0 → a ≠ b → (TJ6 a).2.1 ≠ (TJ6 b).2.1 := by decide +kernel
theorem tyJ6_ok : ∀ k, k < 0 → parseFieldDescriptor (TJ6 k).2.2.1 = some (tyJ6 k) := by decide +kernel
abbrev cJ6_getChars_ba4f3 : ByteArray := prog_23_method_12_code
def yJ6_getChars_ba4f3 : MethodName := ⟨RJ6, "getChars", "(II[B)I"⟩
abbrev cJ6_stringSize_0f7a4 : ByteArray := prog_23_method_13_code
def yJ6_stringSize_0f7a4 : MethodName := ⟨RJ6, "stringSize", "(I)I"⟩
def RJ9 : String := "java/lang/Math"
def TJ9 : u_T := fun k => match k with
  | _ => ("", "", "", false)
def tyJ9 : Nat → FieldType := fun k => match k with
  | _ => .int
theorem nmJ9 : ∀ a, a < 0 → ∀ b, b < 0 → a ≠ b → (TJ9 a).2.1 ≠ (TJ9 b).2.1 := by decide +kernel
theorem tyJ9_ok : ∀ k, k < 0 → parseFieldDescriptor (TJ9 k).2.2.1 = some (tyJ9 k) := by decide +kernel
abbrev cJ9_abs_0f7a4 : ByteArray := prog_24_method_59_code
def yJ9_abs_0f7a4 : MethodName := ⟨RJ9, "abs", "(I)I"⟩
abbrev cJ9_max_7cf53 : ByteArray := prog_24_method_65_code
def yJ9_max_7cf53 : MethodName := ⟨RJ9, "max", "(II)I"⟩
abbrev cJ9_max_f86c9 : ByteArray := prog_24_method_66_code
def yJ9_max_f86c9 : MethodName := ⟨RJ9, "max", "(JJ)J"⟩
abbrev cJ9_min_7cf53 : ByteArray := prog_24_method_69_code
def yJ9_min_7cf53 : MethodName := ⟨RJ9, "min", "(II)I"⟩
def RJ0 : String := "java/lang/String"
def TJ0 : u_T := fun k => match k with
  | 0 => ("java/lang/String", "value", "[B", true)
  | 1 => ("java/lang/String", "coder", "B", true)
  | 2 => ("java/lang/String", "hash", "I", false)
  | _ => ("java/lang/String", "hashIsZero", "Z", false)
def tyJ0 : Nat → FieldType := fun k => match k with
  | 0 => .array .byte
  | 1 => .byte
  | 2 => .int
  | _ => .boolean
theorem nmJ0 : ∀ a, a < 4 → ∀ b, b < 4 → a ≠ b → (TJ0 a).2.1 ≠ (TJ0 b).2.1 := by decide +kernel
theorem tyJ0_ok : ∀ k, k < 4 → parseFieldDescriptor (TJ0 k).2.2.1 = some (tyJ0 k) := by decide +kernel
abbrev cJ0_init_81219 : ByteArray := prog_27_method_53_code
def yJ0_init_81219 : MethodName := ⟨RJ0, "<init>", "(Ljava/lang/StringBuilder;)V"⟩
abbrev cJ0_length_8abf5 : ByteArray := prog_27_method_54_code
def yJ0_length_8abf5 : MethodName := ⟨RJ0, "length", "()I"⟩
abbrev cJ0_charAt_5068e : ByteArray := prog_27_method_56_code
def yJ0_charAt_5068e : MethodName := ⟨RJ0, "charAt", "(I)C"⟩
abbrev cJ0_getBytes_840e7 : ByteArray := prog_27_method_147_code
def yJ0_getBytes_840e7 : MethodName := ⟨RJ0, "getBytes", "([BIB)V"⟩
abbrev cJ0_init_db425 : ByteArray := prog_27_method_150_code
def yJ0_init_db425 : MethodName := ⟨RJ0, "<init>", "(Ljava/lang/AbstractStringBuilder;Ljava/lang/Void;)V"⟩
abbrev cJ0_coder_7d493 : ByteArray := prog_27_method_152_code
def yJ0_coder_7d493 : MethodName := ⟨RJ0, "coder", "()B"⟩
abbrev cJ0_isLatin1_aae02 : ByteArray := prog_27_method_154_code
def yJ0_isLatin1_aae02 : MethodName := ⟨RJ0, "isLatin1", "()Z"⟩
abbrev cJ0_checkIndex_df160 : ByteArray := prog_27_method_155_code
def yJ0_checkIndex_df160 : MethodName := ⟨RJ0, "checkIndex", "(II)V"⟩
abbrev cJ0_checkBoundsOffCount_cabcc : ByteArray := prog_27_method_157_code
def yJ0_checkBoundsOffCount_cabcc : MethodName := ⟨RJ0, "checkBoundsOffCount", "(III)I"⟩
abbrev cJ0_checkBoundsBeginEnd_23922 : ByteArray := prog_27_method_158_code
def yJ0_checkBoundsBeginEnd_23922 : MethodName := ⟨RJ0, "checkBoundsBeginEnd", "(III)V"⟩
def RJ4 : String := "java/lang/StringBuilder"
def TJ4 : u_T := fun k => match k with
  | 0 => ("java/lang/AbstractStringBuilder", "value", "[B", false)
  | 1 => ("java/lang/AbstractStringBuilder", "coder", "B", false)
  | 2 => ("java/lang/AbstractStringBuilder", "maybeLatin1", "Z", false)
  | _ => ("java/lang/AbstractStringBuilder", "count", "I", false)
def tyJ4 : Nat → FieldType := fun k => match k with
  | 0 => .array .byte
  | 1 => .byte
  | 2 => .boolean
  | _ => .int
theorem nmJ4 : ∀ a, a < 4 → ∀ b, b < 4 → a ≠ b → (TJ4 a).2.1 ≠ (TJ4 b).2.1 := by decide +kernel
theorem tyJ4_ok : ∀ k, k < 4 → parseFieldDescriptor (TJ4 k).2.2.1 = some (tyJ4 k) := by decide +kernel
abbrev cJ4_init_da8c8 : ByteArray := prog_28_method_1_code
def yJ4_init_da8c8 : MethodName := ⟨RJ4, "<init>", "()V"⟩
abbrev cJ4_init_a7421 : ByteArray := prog_28_method_3_code
def yJ4_init_a7421 : MethodName := ⟨RJ4, "<init>", "(Ljava/lang/String;)V"⟩
abbrev cJ4_append_15ec4 : ByteArray := prog_28_method_7_code
def yJ4_append_15ec4 : MethodName := ⟨RJ4, "append", "(Ljava/lang/String;)Ljava/lang/StringBuilder;"⟩
abbrev cJ4_append_cf468 : ByteArray := prog_28_method_14_code
def yJ4_append_cf468 : MethodName := ⟨RJ4, "append", "(C)Ljava/lang/StringBuilder;"⟩
abbrev cJ4_append_bf812 : ByteArray := prog_28_method_15_code
def yJ4_append_bf812 : MethodName := ⟨RJ4, "append", "(I)Ljava/lang/StringBuilder;"⟩
abbrev cJ4_toString_0e30d : ByteArray := prog_28_method_42_code
def yJ4_toString_0e30d : MethodName := ⟨RJ4, "toString", "()Ljava/lang/String;"⟩
abbrev cJ4_append_cf1ce : ByteArray := prog_28_method_80_code
def yJ4_append_cf1ce : MethodName := ⟨RJ4, "append", "(Ljava/lang/String;)Ljava/lang/AbstractStringBuilder;"⟩
abbrev cJ4_length_8abf5 : ByteArray := prog_28_method_93_code
def yJ4_length_8abf5 : MethodName := ⟨RJ4, "length", "()I"⟩
def RJ1 : String := "java/lang/StringLatin1"
def TJ1 : u_T := fun k => match k with
  | _ => ("", "", "", false)
def tyJ1 : Nat → FieldType := fun k => match k with
  | _ => .int
theorem nmJ1 : ∀ a, a < 0 → ∀ b, b < 0 → a ≠ b → (TJ1 a).2.1 ≠ (TJ1 b).2.1 := by decide +kernel
theorem tyJ1_ok : ∀ k, k < 0 → parseFieldDescriptor (TJ1 k).2.2.1 = some (tyJ1 k) := by decide +kernel
abbrev cJ1_charAt_3b067 : ByteArray := prog_29_method_2_code
def yJ1_charAt_3b067 : MethodName := ⟨RJ1, "charAt", "([BI)C"⟩
abbrev cJ1_canEncode_fc78d : ByteArray := prog_29_method_3_code
def yJ1_canEncode_fc78d : MethodName := ⟨RJ1, "canEncode", "(C)Z"⟩
abbrev cJ1_inflate_0e8fd : ByteArray := prog_29_method_50_code
def yJ1_inflate_0e8fd : MethodName := ⟨RJ1, "inflate", "([BI[BII)V"⟩
def RJ2 : String := "java/lang/StringUTF16"
def TJ2 : u_T := fun k => match k with
  | _ => ("", "", "", false)
def tyJ2 : Nat → FieldType := fun k => match k with
  | _ => .int
theorem nmJ2 : ∀ a, a < 0 → ∀ b, b < 0 → a ≠ b → (TJ2 a).2.1 ≠ (TJ2 b).2.1 := by decide +kernel
theorem tyJ2_ok : ∀ k, k < 0 → parseFieldDescriptor (TJ2 k).2.2.1 = some (tyJ2 k) := by decide +kernel
abbrev cJ2_newBytesFor_77867 : ByteArray := prog_30_method_2_code
def yJ2_newBytesFor_77867 : MethodName := ⟨RJ2, "newBytesFor", "(I)[B"⟩
abbrev cJ2_newBytesLength_0f7a4 : ByteArray := prog_30_method_3_code
def yJ2_newBytesLength_0f7a4 : MethodName := ⟨RJ2, "newBytesLength", "(I)I"⟩
abbrev cJ2_putChar_b72d1 : ByteArray := prog_30_method_4_code
def yJ2_putChar_b72d1 : MethodName := ⟨RJ2, "putChar", "([BII)V"⟩
abbrev cJ2_getChar_3b067 : ByteArray := prog_30_method_5_code
def yJ2_getChar_3b067 : MethodName := ⟨RJ2, "getChar", "([BI)C"⟩
abbrev cJ2_length_9d52b : ByteArray := prog_30_method_6_code
def yJ2_length_9d52b : MethodName := ⟨RJ2, "length", "([B)I"⟩
abbrev cJ2_coderFromArrayLen_85cad : ByteArray := prog_30_method_15_code
def yJ2_coderFromArrayLen_85cad : MethodName := ⟨RJ2, "coderFromArrayLen", "([BI)B"⟩
abbrev cJ2_compress_39247 : ByteArray := prog_30_method_17_code
def yJ2_compress_39247 : MethodName := ⟨RJ2, "compress", "([BII)[B"⟩
abbrev cJ2_compress_5af95 : ByteArray := prog_30_method_22_code
def yJ2_compress_5af95 : MethodName := ⟨RJ2, "compress", "([BI[BII)I"⟩
abbrev cJ2_putCharSB_b72d1 : ByteArray := prog_30_method_71_code
def yJ2_putCharSB_b72d1 : MethodName := ⟨RJ2, "putCharSB", "([BII)V"⟩
abbrev cJ2_getChars_46870 : ByteArray := prog_30_method_77_code
def yJ2_getChars_46870 : MethodName := ⟨RJ2, "getChars", "(III[B)I"⟩
abbrev cJ2_putCharsAt_cd4e5 : ByteArray := prog_30_method_81_code
def yJ2_putCharsAt_cd4e5 : MethodName := ⟨RJ2, "putCharsAt", "([BICCCC)I"⟩
abbrev cJ2_charAt_3b067 : ByteArray := prog_30_method_83_code
def yJ2_charAt_3b067 : MethodName := ⟨RJ2, "charAt", "([BI)C"⟩
abbrev cJ2_inflate_0e8fd : ByteArray := prog_30_method_86_code
def yJ2_inflate_0e8fd : MethodName := ⟨RJ2, "inflate", "([BI[BII)V"⟩
abbrev cJ2_getChars_ba4f3 : ByteArray := prog_30_method_89_code
def yJ2_getChars_ba4f3 : MethodName := ⟨RJ2, "getChars", "(II[B)I"⟩
abbrev cJ2_checkIndex_2214a : ByteArray := prog_30_method_91_code
def yJ2_checkIndex_2214a : MethodName := ⟨RJ2, "checkIndex", "(I[B)V"⟩
abbrev cJ2_checkBoundsBeginEnd_d044e : ByteArray := prog_30_method_93_code
def yJ2_checkBoundsBeginEnd_d044e : MethodName := ⟨RJ2, "checkBoundsBeginEnd", "(II[B)V"⟩
abbrev cJ2_checkBoundsOffCount_d044e : ByteArray := prog_30_method_94_code
def yJ2_checkBoundsOffCount_d044e : MethodName := ⟨RJ2, "checkBoundsOffCount", "(II[B)V"⟩
def RJ10 : String := "java/lang/System"
def TJ10 : u_T := fun k => match k with
  | _ => ("", "", "", false)
def tyJ10 : Nat → FieldType := fun k => match k with
  | _ => .int
theorem nmJ10 : ∀ a, a < 0 → ∀ b, b < 0 → a ≠ b → (TJ10 a).2.1 ≠ (TJ10 b).2.1 := by decide +kernel
theorem tyJ10_ok : ∀ k, k < 0 → parseFieldDescriptor (TJ10 k).2.2.1 = some (tyJ10 k) := by decide +kernel
def RJ7 : String := "java/util/Arrays"
def TJ7 : u_T := fun k => match k with
  | _ => ("", "", "", false)
def tyJ7 : Nat → FieldType := fun k => match k with
  | _ => .int
theorem nmJ7 : ∀ a, a < 0 → ∀ b, b < 0 → a ≠ b → (TJ7 a).2.1 ≠ (TJ7 b).2.1 := by decide +kernel
theorem tyJ7_ok : ∀ k, k < 0 → parseFieldDescriptor (TJ7 k).2.2.1 = some (tyJ7 k) := by decide +kernel
abbrev cJ7_fill_d0a16 : ByteArray := prog_33_method_101_code
def yJ7_fill_d0a16 : MethodName := ⟨RJ7, "fill", "([JJ)V"⟩
abbrev cJ7_fill_53178 : ByteArray := prog_33_method_103_code
def yJ7_fill_53178 : MethodName := ⟨RJ7, "fill", "([II)V"⟩
abbrev cJ7_copyOf_9075b : ByteArray := prog_33_method_121_code
def yJ7_copyOf_9075b : MethodName := ⟨RJ7, "copyOf", "([BI)[B"⟩
abbrev cJ7_checkLength_df160 : ByteArray := prog_33_method_131_code
def yJ7_checkLength_df160 : MethodName := ⟨RJ7, "checkLength", "(II)V"⟩
abbrev cJ7_copyOfRange_39247 : ByteArray := prog_33_method_132_code
def yJ7_copyOfRange_39247 : MethodName := ⟨RJ7, "copyOfRange", "([BII)[B"⟩
abbrev cJ7_copyOfRangeByte_39247 : ByteArray := prog_33_method_133_code
def yJ7_copyOfRangeByte_39247 : MethodName := ⟨RJ7, "copyOfRangeByte", "([BII)[B"⟩
def RJ8 : String := "jdk/internal/util/ArraysSupport"
def TJ8 : u_T := fun k => match k with
  | _ => ("", "", "", false)
def tyJ8 : Nat → FieldType := fun k => match k with
  | _ => .int
theorem nmJ8 : ∀ a, a < 0 → ∀ b, b < 0 → a ≠ b → (TJ8 a).2.1 ≠ (TJ8 b).2.1 := by decide +kernel
theorem tyJ8_ok : ∀ k, k < 0 → parseFieldDescriptor (TJ8 k).2.2.1 = some (tyJ8 k) := by decide +kernel
abbrev cJ8_newLength_cabcc : ByteArray := prog_34_method_27_code
def yJ8_newLength_cabcc : MethodName := ⟨RJ8, "newLength", "(III)I"⟩
abbrev cJ8_hugeLength_7cf53 : ByteArray := prog_34_method_28_code
def yJ8_hugeLength_7cf53 : MethodName := ⟨RJ8, "hugeLength", "(II)I"⟩
def RJ3 : String := "jdk/internal/util/Preconditions"
def TJ3 : u_T := fun k => match k with
  | _ => ("", "", "", false)
def tyJ3 : Nat → FieldType := fun k => match k with
  | _ => .int
theorem nmJ3 : ∀ a, a < 0 → ∀ b, b < 0 → a ≠ b → (TJ3 a).2.1 ≠ (TJ3 b).2.1 := by decide +kernel
theorem tyJ3_ok : ∀ k, k < 0 → parseFieldDescriptor (TJ3 k).2.2.1 = some (tyJ3 k) := by decide +kernel
abbrev cJ3_checkIndex_8e157 : ByteArray := prog_35_method_11_code
def yJ3_checkIndex_8e157 : MethodName := ⟨RJ3, "checkIndex", "(IILjava/util/function/BiFunction;)I"⟩
abbrev cJ3_checkFromToIndex_8c36e : ByteArray := prog_35_method_12_code
def yJ3_checkFromToIndex_8c36e : MethodName := ⟨RJ3, "checkFromToIndex", "(IIILjava/util/function/BiFunction;)I"⟩
abbrev cJ3_checkFromIndexSize_8c36e : ByteArray := prog_35_method_13_code
def yJ3_checkFromIndexSize_8c36e : MethodName := ⟨RJ3, "checkFromIndexSize", "(IIILjava/util/function/BiFunction;)I"⟩
def RL : String := "DecisionChainLaw"
abbrev cL_feeds : ByteArray := method_2_code
def yL_feeds : MethodName := ⟨RL, "feeds", "(LDecisionChain;Ljava/lang/String;)Z"⟩
abbrev cL_tell : ByteArray := method_3_code
def yL_tell : MethodName := ⟨RL, "tell", "(LDecisionChain;Ljava/lang/String;)I"⟩
abbrev cL_calls : ByteArray := method_4_code
def yL_calls : MethodName := ⟨RL, "calls", "(LDecisionChain;IIII)J"⟩
abbrev cL_thrown : ByteArray := method_5_code
def yL_thrown : MethodName := ⟨RL, "thrown", "(LDecisionChain;IIII)I"⟩
abbrev cL_isLike : ByteArray := method_6_code
def yL_isLike : MethodName := ⟨RL, "isLike", "(LDecisionChain;LDecisionChainLaw$Chain;)Z"⟩
abbrev cL_rules : ByteArray := method_7_code
def yL_rules : MethodName := ⟨RL, "rules", "(LDecisionChain;LDecisionChainLaw$Chain;LDecisionChainLaw$Draws;I)Z"⟩
abbrev cL_act : ByteArray := method_8_code
def yL_act : MethodName := ⟨RL, "act", "(LDecisionChain;LDecisionChainLaw$Chain;LDecisionChainLaw$Draws;)Z"⟩
abbrev cL_flows : ByteArray := method_9_code
def yL_flows : MethodName := ⟨RL, "flows", "(LDecisionChain;LDecisionChainLaw$Chain;)Z"⟩
abbrev cL_hit : ByteArray := method_10_code
def yL_hit : MethodName := ⟨RL, "hit", "(LDecisionChainLaw$Chain;III)J"⟩
abbrev cL_runs : ByteArray := method_11_code
def yL_runs : MethodName := ⟨RL, "runs", "(LDecisionChain;LDecisionChainLaw$Chain;)Z"⟩
abbrev cL_law : ByteArray := code
def yL_law : MethodName := ⟨RL, "law", "([I)Z"⟩
abbrev vwCl : List vw_C := [(RX0, TX0, 8), (RX1, TX1, 7), (RX2, TX2, 7), (RX3, TX3, 4), (RX4, TX4, 7), (RX5, TX5, 11), (RX6, TX6, 2), (RX7, TX7, 9), (RX8, TX8, 4), (RX9, TX9, 3), (RX10, TX10, 4), (RX11, TX11, 12), (RX12, TX12, 17), (RX13, TX13, 2), (RJ0, TJ0, 4), (RJ4, TJ4, 4)]
end
section
def dkL (c : ByteArray) (L : List (Nat × Instr × Nat)) : Bool := L.all (fun q => decide (decode c q.1 = .ok (q.2.1, q.2.2)))
theorem dkAt {c : ByteArray} {L : List (Nat × Instr × Nat)} (h : dkL c L = true) (k : Nat) {pc : Nat} {i : Instr} {n : Nat} (hk : L[k]? = some (pc, i, n)) : decode c pc = .ok (i, n) := by
  have h1 := List.all_eq_true.mp h (pc, i, n) (List.mem_of_getElem? hk)
  exact of_decide_eq_true h1
abbrev ii_X0_init : List (Nat × Instr × Nat) := [(0, .aload_n 0, 1), (1, .invokespecial 3, 3), (4, .aload_n 0, 1), (5, .bipush 6, 2), (7, .newarray .int, 2), (9, .putfield 9, 3), (12, .aload_n 0, 1), (13, .bipush 18, 2), (15, .newarray .int, 2), (17, .putfield 15, 3), (20, .aload_n 0, 1), (21, .bipush 54, 2), (23, .newarray .int, 2), (25, .putfield 18, 3), (28, .aload_n 0, 1), (29, .bipush 108, 2), (31, .newarray .int, 2), (33, .putfield 21, 3), (36, .aload_n 0, 1), (37, .bipush 108, 2), (39, .newarray .int, 2), (41, .putfield 24, 3), (44, .aload_n 0, 1), (45, .bipush 18, 2), (47, .newarray .int, 2), (49, .putfield 27, 3), (52, .return_, 1)]
theorem dk_X0_init : dkL cX0_init ii_X0_init = true := by decide +kernel
abbrev ii_X0_clear : List (Nat × Instr × Nat) := [(0, .aload_n 0, 1), (1, .iconst 0, 1), (2, .putfield 30, 3), (5, .aload_n 0, 1), (6, .iconst 0, 1), (7, .putfield 34, 3), (10, .aload_n 0, 1), (11, .getfield 9, 3), (14, .iconst 0, 1), (15, .invokestatic 37, 3), (18, .aload_n 0, 1), (19, .getfield 15, 3), (22, .iconst 0, 1), (23, .invokestatic 37, 3), (26, .aload_n 0, 1), (27, .getfield 18, 3), (30, .iconst 0, 1), (31, .invokestatic 37, 3), (34, .aload_n 0, 1), (35, .getfield 21, 3), (38, .iconst 0, 1), (39, .invokestatic 37, 3), (42, .aload_n 0, 1), (43, .getfield 24, 3), (46, .iconst 0, 1), (47, .invokestatic 37, 3), (50, .aload_n 0, 1), (51, .getfield 27, 3), (54, .iconst 0, 1), (55, .invokestatic 37, 3), (58, .return_, 1)]
theorem dk_X0_clear : dkL cX0_clear ii_X0_clear = true := by decide +kernel
abbrev ii_X0_copyFrom : List (Nat × Instr × Nat) := [(0, .aload_n 0, 1), (1, .aload_n 1, 1), (2, .getfield 30, 3), (5, .putfield 30, 3), (8, .aload_n 0, 1), (9, .aload_n 1, 1), (10, .getfield 34, 3), (13, .putfield 34, 3), (16, .aload_n 1, 1), (17, .getfield 9, 3), (20, .aload_n 0, 1), (21, .getfield 9, 3), (24, .invokestatic 43, 3), (27, .aload_n 1, 1), (28, .getfield 15, 3), (31, .aload_n 0, 1), (32, .getfield 15, 3), (35, .invokestatic 43, 3), (38, .aload_n 1, 1), (39, .getfield 18, 3), (42, .aload_n 0, 1), (43, .getfield 18, 3), (46, .invokestatic 43, 3), (49, .aload_n 1, 1), (50, .getfield 21, 3), (53, .aload_n 0, 1), (54, .getfield 21, 3), (57, .invokestatic 43, 3), (60, .aload_n 1, 1), (61, .getfield 24, 3), (64, .aload_n 0, 1), (65, .getfield 24, 3), (68, .invokestatic 43, 3), (71, .aload_n 1, 1), (72, .getfield 27, 3), (75, .aload_n 0, 1), (76, .getfield 27, 3), (79, .invokestatic 43, 3), (82, .return_, 1)]
theorem dk_X0_copyFrom : dkL cX0_copyFrom ii_X0_copyFrom = true := by decide +kernel
abbrev ii_X0_amountOf : List (Nat × Instr × Nat) := [(0, .aload_n 0, 1), (1, .getfield 18, 3), (4, .iload_n 1, 1), (5, .iconst 3, 1), (6, .imul, 1), (7, .iload_n 2, 1), (8, .iadd, 1), (9, .iaload, 1), (10, .ireturn, 1)]
theorem dk_X0_amountOf : dkL cX0_amountOf ii_X0_amountOf = true := by decide +kernel
abbrev ii_X0_percentTo : List (Nat × Instr × Nat) := [(0, .aload_n 0, 1), (1, .getfield 21, 3), (4, .iload_n 1, 1), (5, .bipush 6, 2), (7, .imul, 1), (8, .iload_n 2, 1), (9, .iadd, 1), (10, .iaload, 1), (11, .ireturn, 1)]
theorem dk_X0_percentTo : dkL cX0_percentTo ii_X0_percentTo = true := by decide +kernel
abbrev ii_X0_tell : List (Nat × Instr × Nat) := [(0, .aload_n 0, 1), (1, .getfield 27, 3), (4, .iload_n 1, 1), (5, .iaload, 1), (6, .bipush 6, 2), (8, .if_icmp .ge 42, 3), (11, .aload_n 0, 1), (12, .getfield 24, 3), (15, .iload_n 1, 1), (16, .bipush 6, 2), (18, .imul, 1), (19, .aload_n 0, 1), (20, .getfield 27, 3), (23, .iload_n 1, 1), (24, .iaload, 1), (25, .iadd, 1), (26, .iload_n 2, 1), (27, .iastore, 1), (28, .aload_n 0, 1), (29, .getfield 27, 3), (32, .iload_n 1, 1), (33, .dup2, 1), (34, .iaload, 1), (35, .iconst 1, 1), (36, .iadd, 1), (37, .iastore, 1), (38, .aload_n 0, 1), (39, .getfield 21, 3), (42, .iload_n 1, 1), (43, .bipush 6, 2), (45, .imul, 1), (46, .iload_n 2, 1), (47, .iadd, 1), (48, .iload_n 3, 1), (49, .iastore, 1), (50, .return_, 1)]
theorem dk_X0_tell : dkL cX0_tell ii_X0_tell = true := by decide +kernel
abbrev ii_X0_countActions : List (Nat × Instr × Nat) := [(0, .iconst 0, 1), (1, .istore_n 1, 1), (2, .iconst 0, 1), (3, .istore_n 2, 1), (4, .iload_n 2, 1), (5, .aload_n 0, 1), (6, .getfield 30, 3), (9, .if_icmp .ge 18, 3), (12, .iload_n 1, 1), (13, .aload_n 0, 1), (14, .getfield 9, 3), (17, .iload_n 2, 1), (18, .iaload, 1), (19, .iadd, 1), (20, .istore_n 1, 1), (21, .iinc 2 1, 3), (24, .goto (-20), 3), (27, .iload_n 1, 1), (28, .ireturn, 1)]
theorem dk_X0_countActions : dkL cX0_countActions ii_X0_countActions = true := by decide +kernel
abbrev ii_X1_init : List (Nat × Instr × Nat) := [(0, .aload_n 0, 1), (1, .invokespecial 3, 3), (4, .aload_n 0, 1), (5, .bipush 36, 2), (7, .newarray .long, 2), (9, .putfield 9, 3), (12, .aload_n 0, 1), (13, .bipush 36, 2), (15, .newarray .long, 2), (17, .putfield 15, 3), (20, .aload_n 0, 1), (21, .bipush 36, 2), (23, .newarray .long, 2), (25, .putfield 18, 3), (28, .aload_n 0, 1), (29, .bipush 36, 2), (31, .newarray .long, 2), (33, .putfield 21, 3), (36, .aload_n 0, 1), (37, .aload_n 1, 1), (38, .putfield 24, 3), (41, .return_, 1)]
theorem dk_X1_init : dkL cX1_init ii_X1_init = true := by decide +kernel
abbrev ii_X1_follow : List (Nat × Instr × Nat) := [(0, .aload_n 0, 1), (1, .iload_n 2, 1), (2, .putfield 28, 3), (5, .aload_n 0, 1), (6, .iload_n 3, 1), (7, .putfield 32, 3), (10, .aload_n 0, 1), (11, .aload_n 1, 1), (12, .invokevirtual 35, 3), (15, .aload_n 0, 1), (16, .getfield 15, 3), (19, .lconst 0, 1), (20, .invokestatic 39, 3), (23, .aload_n 0, 1), (24, .getfield 15, 3), (27, .aload_n 0, 1), (28, .getfield 28, 3), (31, .lconst 1, 1), (32, .lastore, 1), (33, .iconst 0, 1), (34, .istore 4, 2), (36, .iload 4, 2), (38, .aload_n 0, 1), (39, .getfield 32, 3), (42, .if_icmp .ge 19, 3), (45, .aload_n 0, 1), (46, .aload_n 0, 1), (47, .getfield 15, 3), (50, .iload 4, 2), (52, .invokevirtual 45, 3), (55, .iinc 4 1, 3), (58, .goto (-22), 3), (61, .return_, 1)]
theorem dk_X1_follow : dkL cX1_follow ii_X1_follow = true := by decide +kernel
abbrev ii_X1_fillParts : List (Nat × Instr × Nat) := [(0, .aload_n 0, 1), (1, .getfield 9, 3), (4, .lconst 0, 1), (5, .invokestatic 39, 3), (8, .iconst 0, 1), (9, .istore_n 2, 1), (10, .iload_n 2, 1), (11, .aload_n 0, 1), (12, .getfield 24, 3), (15, .getfield 49, 3), (18, .if_icmp .ge 55, 3), (21, .iconst 0, 1), (22, .istore_n 3, 1), (23, .iload_n 3, 1), (24, .aload_n 0, 1), (25, .getfield 24, 3), (28, .getfield 54, 3), (31, .iload_n 2, 1), (32, .iaload, 1), (33, .if_icmp .ge 34, 3), (36, .iload_n 2, 1), (37, .iload_n 3, 1), (38, .invokestatic 58, 3), (41, .istore 4, 2), (43, .aload_n 1, 1), (44, .iload 4, 2), (46, .iaload, 1), (47, .ifCond .le 14, 3), (50, .aload_n 0, 1), (51, .iload_n 2, 1), (52, .iload 4, 2), (54, .aload_n 1, 1), (55, .iload 4, 2), (57, .iaload, 1), (58, .invokevirtual 62, 3), (61, .iinc 3 1, 3), (64, .goto (-41), 3), (67, .iinc 2 1, 3), (70, .goto (-60), 3), (73, .return_, 1)]
theorem dk_X1_fillParts : dkL cX1_fillParts ii_X1_fillParts = true := by decide +kernel
abbrev ii_X1_addParts : List (Nat × Instr × Nat) := [(0, .iconst 0, 1), (1, .istore 4, 2), (3, .iload 4, 2), (5, .aload_n 0, 1), (6, .getfield 24, 3), (9, .getfield 49, 3), (12, .if_icmp .ge 37, 3), (15, .aload_n 0, 1), (16, .getfield 9, 3), (19, .iload_n 1, 1), (20, .bipush 6, 2), (22, .imul, 1), (23, .iload 4, 2), (25, .iadd, 1), (26, .dup2, 1), (27, .laload, 1), (28, .iload_n 3, 1), (29, .aload_n 0, 1), (30, .getfield 24, 3), (33, .iload_n 2, 1), (34, .iload 4, 2), (36, .invokevirtual 66, 3), (39, .imul, 1), (40, .i2l, 1), (41, .ladd, 1), (42, .lastore, 1), (43, .iinc 4 1, 3), (46, .goto (-43), 3), (49, .return_, 1)]
theorem dk_X1_addParts : dkL cX1_addParts ii_X1_addParts = true := by decide +kernel
abbrev ii_X1_spread : List (Nat × Instr × Nat) := [(0, .iconst 0, 1), (1, .istore_n 3, 1), (2, .iload_n 3, 1), (3, .aload_n 0, 1), (4, .getfield 24, 3), (7, .getfield 49, 3), (10, .if_icmp .ge 71, 3), (13, .aload_n 1, 1), (14, .iload_n 2, 1), (15, .bipush 6, 2), (17, .imul, 1), (18, .iload_n 3, 1), (19, .iadd, 1), (20, .laload, 1), (21, .lstore 4, 2), (23, .lload 4, 2), (25, .lconst 0, 1), (26, .lcmp, 1), (27, .ifCond .le 48, 3), (30, .iconst 0, 1), (31, .istore 6, 2), (33, .iload 6, 2), (35, .aload_n 0, 1), (36, .getfield 24, 3), (39, .getfield 49, 3), (42, .if_icmp .ge 33, 3), (45, .aload_n 1, 1), (46, .iload_n 2, 1), (47, .iconst 1, 1), (48, .iadd, 1), (49, .bipush 6, 2), (51, .imul, 1), (52, .iload 6, 2), (54, .iadd, 1), (55, .dup2, 1), (56, .laload, 1), (57, .lload 4, 2), (59, .aload_n 0, 1), (60, .iload_n 3, 1), (61, .iload 6, 2), (63, .invokevirtual 69, 3), (66, .lmul, 1), (67, .ladd, 1), (68, .lastore, 1), (69, .iinc 6 1, 3), (72, .goto (-39), 3), (75, .iinc 3 1, 3), (78, .goto (-76), 3), (81, .return_, 1)]
theorem dk_X1_spread : dkL cX1_spread ii_X1_spread = true := by decide +kernel
abbrev ii_X1_partsTo : List (Nat × Instr × Nat) := [(0, .aload_n 0, 1), (1, .getfield 9, 3), (4, .iload_n 1, 1), (5, .bipush 6, 2), (7, .imul, 1), (8, .iload_n 2, 1), (9, .iadd, 1), (10, .laload, 1), (11, .lreturn, 1)]
theorem dk_X1_partsTo : dkL cX1_partsTo ii_X1_partsTo = true := by decide +kernel
abbrev ii_X1_nextStates : List (Nat × Instr × Nat) := [(0, .iconst 0, 1), (1, .istore_n 2, 1), (2, .iconst 0, 1), (3, .istore_n 3, 1), (4, .iload_n 3, 1), (5, .aload_n 0, 1), (6, .getfield 24, 3), (9, .getfield 49, 3), (12, .if_icmp .ge 26, 3), (15, .aload_n 0, 1), (16, .iload_n 1, 1), (17, .iload_n 3, 1), (18, .invokevirtual 69, 3), (21, .lconst 0, 1), (22, .lcmp, 1), (23, .ifCond .le 9, 3), (26, .iload_n 2, 1), (27, .iconst 1, 1), (28, .iload_n 3, 1), (29, .ishl, 1), (30, .ior, 1), (31, .istore_n 2, 1), (32, .iinc 3 1, 3), (35, .goto (-31), 3), (38, .iload_n 2, 1), (39, .ireturn, 1)]
theorem dk_X1_nextStates : dkL cX1_nextStates ii_X1_nextStates = true := by decide +kernel
abbrev ii_X1_at : List (Nat × Instr × Nat) := [(0, .aload_n 0, 1), (1, .getfield 15, 3), (4, .iload_n 2, 1), (5, .bipush 6, 2), (7, .imul, 1), (8, .iload_n 1, 1), (9, .iadd, 1), (10, .laload, 1), (11, .lreturn, 1)]
theorem dk_X1_at : dkL cX1_at ii_X1_at = true := by decide +kernel
abbrev ii_X1_visitsOf : List (Nat × Instr × Nat) := [(0, .aload_n 0, 1), (1, .iload_n 1, 1), (2, .aload_n 0, 1), (3, .getfield 32, 3), (6, .invokevirtual 73, 3), (9, .lreturn, 1)]
theorem dk_X1_visitsOf : dkL cX1_visitsOf ii_X1_visitsOf = true := by decide +kernel
abbrev ii_X1_sumOf : List (Nat × Instr × Nat) := [(0, .lconst 0, 1), (1, .lstore_n 3, 1), (2, .iconst 0, 1), (3, .istore 5, 2), (5, .iload 5, 2), (7, .iload_n 2, 1), (8, .if_icmp .gt 23, 3), (11, .lload_n 3, 1), (12, .ldc2_w 76, 3), (15, .lmul, 1), (16, .aload_n 0, 1), (17, .iload_n 1, 1), (18, .iload 5, 2), (20, .invokevirtual 78, 3), (23, .ladd, 1), (24, .lstore_n 3, 1), (25, .iinc 5 1, 3), (28, .goto (-23), 3), (31, .lload_n 3, 1), (32, .lreturn, 1)]
theorem dk_X1_sumOf : dkL cX1_sumOf ii_X1_sumOf = true := by decide +kernel
abbrev ii_X1_rankOf : List (Nat × Instr × Nat) := [(0, .aload_n 0, 1), (1, .iload_n 1, 1), (2, .invokevirtual 81, 3), (5, .lstore_n 2, 1), (6, .iconst 0, 1), (7, .istore 4, 2), (9, .iconst 0, 1), (10, .istore 5, 2), (12, .iload 5, 2), (14, .aload_n 0, 1), (15, .getfield 24, 3), (18, .getfield 49, 3), (21, .if_icmp .ge 40, 3), (24, .aload_n 0, 1), (25, .iload 5, 2), (27, .invokevirtual 81, 3), (30, .lstore 6, 2), (32, .lload 6, 2), (34, .lload_n 2, 1), (35, .lcmp, 1), (36, .ifCond .gt 16, 3), (39, .lload 6, 2), (41, .lload_n 2, 1), (42, .lcmp, 1), (43, .ifCond .ne 12, 3), (46, .iload 5, 2), (48, .iload_n 1, 1), (49, .if_icmp .ge 6, 3), (52, .iinc 4 1, 3), (55, .iinc 5 1, 3), (58, .goto (-46), 3), (61, .iload 4, 2), (63, .ireturn, 1)]
theorem dk_X1_rankOf : dkL cX1_rankOf ii_X1_rankOf = true := by decide +kernel
abbrev ii_X1_hitOf : List (Nat × Instr × Nat) := [(0, .aload_n 0, 1), (1, .getfield 18, 3), (4, .lconst 0, 1), (5, .invokestatic 39, 3), (8, .aload_n 0, 1), (9, .getfield 18, 3), (12, .aload_n 0, 1), (13, .getfield 28, 3), (16, .lconst 1, 1), (17, .lastore, 1), (18, .lconst 0, 1), (19, .lstore_n 2, 1), (20, .iconst 0, 1), (21, .istore 4, 2), (23, .iload 4, 2), (25, .aload_n 0, 1), (26, .getfield 32, 3), (29, .if_icmp .gt 59, 3), (32, .iload 4, 2), (34, .bipush 6, 2), (36, .imul, 1), (37, .iload_n 1, 1), (38, .iadd, 1), (39, .istore 5, 2), (41, .lload_n 2, 1), (42, .ldc2_w 76, 3), (45, .lmul, 1), (46, .aload_n 0, 1), (47, .getfield 18, 3), (50, .iload 5, 2), (52, .laload, 1), (53, .ladd, 1), (54, .lstore_n 2, 1), (55, .aload_n 0, 1), (56, .getfield 18, 3), (59, .iload 5, 2), (61, .lconst 0, 1), (62, .lastore, 1), (63, .iload 4, 2), (65, .aload_n 0, 1), (66, .getfield 32, 3), (69, .if_icmp .ge 13, 3), (72, .aload_n 0, 1), (73, .aload_n 0, 1), (74, .getfield 18, 3), (77, .iload 4, 2), (79, .invokevirtual 45, 3), (82, .iinc 4 1, 3), (85, .goto (-62), 3), (88, .lload_n 2, 1), (89, .lreturn, 1)]
theorem dk_X1_hitOf : dkL cX1_hitOf ii_X1_hitOf = true := by decide +kernel
abbrev ii_X1_gainOf : List (Nat × Instr × Nat) := [(0, .lconst 0, 1), (1, .lstore_n 2, 1), (2, .iconst 0, 1), (3, .istore 4, 2), (5, .iload 4, 2), (7, .aload_n 0, 1), (8, .getfield 24, 3), (11, .getfield 49, 3), (14, .if_icmp .ge 84, 3), (17, .lconst 0, 1), (18, .lstore 5, 2), (20, .iconst 0, 1), (21, .istore 7, 2), (23, .iload 7, 2), (25, .aload_n 0, 1), (26, .getfield 24, 3), (29, .getfield 54, 3), (32, .iload 4, 2), (34, .iaload, 1), (35, .if_icmp .ge 39, 3), (38, .iload 4, 2), (40, .iload 7, 2), (42, .invokestatic 58, 3), (45, .istore 8, 2), (47, .lload 5, 2), (49, .aload_n 1, 1), (50, .iload 8, 2), (52, .iaload, 1), (53, .aload_n 0, 1), (54, .getfield 24, 3), (57, .getfield 85, 3), (60, .iload 8, 2), (62, .iaload, 1), (63, .imul, 1), (64, .i2l, 1), (65, .ladd, 1), (66, .lstore 5, 2), (68, .iinc 7 1, 3), (71, .goto (-48), 3), (74, .lload_n 2, 1), (75, .aload_n 0, 1), (76, .iload 4, 2), (78, .aload_n 0, 1), (79, .getfield 32, 3), (82, .iconst 1, 1), (83, .isub, 1), (84, .invokevirtual 73, 3), (87, .lload 5, 2), (89, .lmul, 1), (90, .ladd, 1), (91, .lstore_n 2, 1), (92, .iinc 4 1, 3), (95, .goto (-90), 3), (98, .lload_n 2, 1), (99, .lreturn, 1)]
theorem dk_X1_gainOf : dkL cX1_gainOf ii_X1_gainOf = true := by decide +kernel
abbrev ii_X1_usedOf : List (Nat × Instr × Nat) := [(0, .lconst 0, 1), (1, .lstore_n 3, 1), (2, .iconst 0, 1), (3, .istore 5, 2), (5, .iload 5, 2), (7, .aload_n 0, 1), (8, .getfield 24, 3), (11, .getfield 49, 3), (14, .if_icmp .ge 84, 3), (17, .lconst 0, 1), (18, .lstore 6, 2), (20, .iconst 0, 1), (21, .istore 8, 2), (23, .iload 8, 2), (25, .aload_n 0, 1), (26, .getfield 24, 3), (29, .getfield 54, 3), (32, .iload 5, 2), (34, .iaload, 1), (35, .if_icmp .ge 39, 3), (38, .iload 5, 2), (40, .iload 8, 2), (42, .invokestatic 58, 3), (45, .istore 9, 2), (47, .lload 6, 2), (49, .aload_n 1, 1), (50, .iload 9, 2), (52, .iaload, 1), (53, .aload_n 0, 1), (54, .getfield 24, 3), (57, .iload 9, 2), (59, .iload_n 2, 1), (60, .invokevirtual 88, 3), (63, .imul, 1), (64, .i2l, 1), (65, .ladd, 1), (66, .lstore 6, 2), (68, .iinc 8 1, 3), (71, .goto (-48), 3), (74, .lload_n 3, 1), (75, .aload_n 0, 1), (76, .iload 5, 2), (78, .aload_n 0, 1), (79, .getfield 32, 3), (82, .iconst 1, 1), (83, .isub, 1), (84, .invokevirtual 73, 3), (87, .lload 6, 2), (89, .lmul, 1), (90, .ladd, 1), (91, .lstore_n 3, 1), (92, .iinc 5 1, 3), (95, .goto (-90), 3), (98, .lload_n 3, 1), (99, .lreturn, 1)]
theorem dk_X1_usedOf : dkL cX1_usedOf ii_X1_usedOf = true := by decide +kernel
abbrev ii_X1_stateOfLikeliest : List (Nat × Instr × Nat) := [(0, .aload_n 0, 1), (1, .invokevirtual 91, 3), (4, .aload_n 0, 1), (5, .getfield 28, 3), (8, .istore_n 2, 1), (9, .iconst 0, 1), (10, .istore_n 3, 1), (11, .iload_n 3, 1), (12, .iload_n 1, 1), (13, .if_icmp .ge 21, 3), (16, .aload_n 0, 1), (17, .iload_n 2, 1), (18, .aload_n 0, 1), (19, .getfield 32, 3), (22, .iload_n 3, 1), (23, .isub, 1), (24, .invokevirtual 94, 3), (27, .istore_n 2, 1), (28, .iinc 3 1, 3), (31, .goto (-20), 3), (34, .iload_n 2, 1), (35, .ireturn, 1)]
theorem dk_X1_stateOfLikeliest : dkL cX1_stateOfLikeliest ii_X1_stateOfLikeliest = true := by decide +kernel
abbrev ii_X1_fillChances : List (Nat × Instr × Nat) := [(0, .aload_n 0, 1), (1, .getfield 21, 3), (4, .lconst 1, 1), (5, .invokestatic 39, 3), (8, .iconst 1, 1), (9, .istore_n 1, 1), (10, .iload_n 1, 1), (11, .aload_n 0, 1), (12, .getfield 32, 3), (15, .if_icmp .gt 76, 3), (18, .iconst 0, 1), (19, .istore_n 2, 1), (20, .iload_n 2, 1), (21, .aload_n 0, 1), (22, .getfield 24, 3), (25, .getfield 49, 3), (28, .if_icmp .ge 57, 3), (31, .lconst 0, 1), (32, .lstore_n 3, 1), (33, .iconst 0, 1), (34, .istore 5, 2), (36, .iload 5, 2), (38, .aload_n 0, 1), (39, .getfield 24, 3), (42, .getfield 49, 3), (45, .if_icmp .ge 22, 3), (48, .lload_n 3, 1), (49, .aload_n 0, 1), (50, .iload_n 2, 1), (51, .iload 5, 2), (53, .iload_n 1, 1), (54, .invokevirtual 97, 3), (57, .invokestatic 101, 3), (60, .lstore_n 3, 1), (61, .iinc 5 1, 3), (64, .goto (-28), 3), (67, .aload_n 0, 1), (68, .getfield 21, 3), (71, .iload_n 1, 1), (72, .bipush 6, 2), (74, .imul, 1), (75, .iload_n 2, 1), (76, .iadd, 1), (77, .lload_n 3, 1), (78, .lastore, 1), (79, .iinc 2 1, 3), (82, .goto (-62), 3), (85, .iinc 1 1, 3), (88, .goto (-78), 3), (91, .return_, 1)]
theorem dk_X1_fillChances : dkL cX1_fillChances ii_X1_fillChances = true := by decide +kernel
abbrev ii_X1_chanceOver : List (Nat × Instr × Nat) := [(0, .aload_n 0, 1), (1, .iload_n 1, 1), (2, .iload_n 2, 1), (3, .invokevirtual 69, 3), (6, .aload_n 0, 1), (7, .getfield 21, 3), (10, .iload_n 3, 1), (11, .iconst 1, 1), (12, .isub, 1), (13, .bipush 6, 2), (15, .imul, 1), (16, .iload_n 2, 1), (17, .iadd, 1), (18, .laload, 1), (19, .lmul, 1), (20, .lreturn, 1)]
theorem dk_X1_chanceOver : dkL cX1_chanceOver ii_X1_chanceOver = true := by decide +kernel
abbrev ii_X1_likeliestNext : List (Nat × Instr × Nat) := [(0, .iconst 0, 1), (1, .istore_n 3, 1), (2, .iload_n 3, 1), (3, .aload_n 0, 1), (4, .getfield 24, 3), (7, .getfield 49, 3), (10, .if_icmp .ge 33, 3), (13, .aload_n 0, 1), (14, .iload_n 1, 1), (15, .iload_n 3, 1), (16, .iload_n 2, 1), (17, .invokevirtual 97, 3), (20, .aload_n 0, 1), (21, .getfield 21, 3), (24, .iload_n 2, 1), (25, .bipush 6, 2), (27, .imul, 1), (28, .iload_n 1, 1), (29, .iadd, 1), (30, .laload, 1), (31, .lcmp, 1), (32, .ifCond .ne 5, 3), (35, .iload_n 3, 1), (36, .ireturn, 1), (37, .iinc 3 1, 3), (40, .goto (-38), 3), (43, .iload_n 1, 1), (44, .ireturn, 1)]
theorem dk_X1_likeliestNext : dkL cX1_likeliestNext ii_X1_likeliestNext = true := by decide +kernel
abbrev ii_X2_init : List (Nat × Instr × Nat) := [(0, .aload_n 0, 1), (1, .invokespecial 3, 3), (4, .aload_n 0, 1), (5, .sipush 1200, 3), (8, .newarray .byte, 2), (10, .putfield 9, 3), (13, .return_, 1)]
theorem dk_X2_init : dkL cX2_init ii_X2_init = true := by decide +kernel
abbrev ii_X2_hasRoom : List (Nat × Instr × Nat) := [(0, .aload_n 0, 1), (1, .getfield 15, 3), (4, .iload_n 1, 1), (5, .iadd, 1), (6, .sipush 1200, 3), (9, .if_icmp .gt 7, 3), (12, .iconst 1, 1), (13, .goto 4, 3), (16, .iconst 0, 1), (17, .ireturn, 1)]
theorem dk_X2_hasRoom : dkL cX2_hasRoom ii_X2_hasRoom = true := by decide +kernel
abbrev ii_X2_put : List (Nat × Instr × Nat) := [(0, .bipush 24, 2), (2, .istore_n 2, 1), (3, .iload_n 2, 1), (4, .ifCond .lt 42, 3), (7, .aload_n 0, 1), (8, .getfield 15, 3), (11, .sipush 1200, 3), (14, .if_icmp .ge 32, 3), (17, .aload_n 0, 1), (18, .getfield 9, 3), (21, .aload_n 0, 1), (22, .getfield 15, 3), (25, .iload_n 1, 1), (26, .iload_n 2, 1), (27, .ishr, 1), (28, .i2b, 1), (29, .bastore, 1), (30, .aload_n 0, 1), (31, .dup, 1), (32, .getfield 15, 3), (35, .iconst 1, 1), (36, .iadd, 1), (37, .putfield 15, 3), (40, .iinc 2 (-8), 3), (43, .goto (-40), 3), (46, .return_, 1)]
theorem dk_X2_put : dkL cX2_put ii_X2_put = true := by decide +kernel
abbrev ii_X2_begin : List (Nat × Instr × Nat) := [(0, .aload_n 0, 1), (1, .iload_n 1, 1), (2, .sipush 1200, 3), (5, .invokestatic 19, 3), (8, .putfield 25, 3), (11, .aload_n 0, 1), (12, .iconst 0, 1), (13, .putfield 28, 3), (16, .aload_n 0, 1), (17, .invokevirtual 31, 3), (20, .return_, 1)]
theorem dk_X2_begin : dkL cX2_begin ii_X2_begin = true := by decide +kernel
abbrev ii_X2_advance : List (Nat × Instr × Nat) := [(0, .aload_n 0, 1), (1, .aload_n 0, 1), (2, .getfield 28, 3), (5, .putfield 34, 3), (8, .aload_n 0, 1), (9, .getfield 34, 3), (12, .aload_n 0, 1), (13, .getfield 25, 3), (16, .if_icmp .ge 30, 3), (19, .aload_n 0, 1), (20, .getfield 9, 3), (23, .aload_n 0, 1), (24, .getfield 34, 3), (27, .baload, 1), (28, .bipush 32, 2), (30, .if_icmp .ne 16, 3), (33, .aload_n 0, 1), (34, .dup, 1), (35, .getfield 34, 3), (38, .iconst 1, 1), (39, .iadd, 1), (40, .putfield 34, 3), (43, .goto (-35), 3), (46, .aload_n 0, 1), (47, .aload_n 0, 1), (48, .getfield 34, 3), (51, .putfield 28, 3), (54, .aload_n 0, 1), (55, .getfield 34, 3), (58, .aload_n 0, 1), (59, .getfield 25, 3), (62, .if_icmp .lt 11, 3), (65, .aload_n 0, 1), (66, .iconst 0, 1), (67, .putfield 37, 3), (70, .goto 242, 3), (73, .aload_n 0, 1), (74, .getfield 9, 3), (77, .aload_n 0, 1), (78, .getfield 34, 3), (81, .baload, 1), (82, .invokestatic 40, 3), (85, .ifCond .eq 68, 3), (88, .aload_n 0, 1), (89, .getfield 28, 3), (92, .aload_n 0, 1), (93, .getfield 25, 3), (96, .if_icmp .ge 31, 3), (99, .aload_n 0, 1), (100, .getfield 9, 3), (103, .aload_n 0, 1), (104, .getfield 28, 3), (107, .baload, 1), (108, .invokestatic 40, 3), (111, .ifCond .eq 16, 3), (114, .aload_n 0, 1), (115, .dup, 1), (116, .getfield 28, 3), (119, .iconst 1, 1), (120, .iadd, 1), (121, .putfield 28, 3), (124, .goto (-36), 3), (127, .aload_n 0, 1), (128, .aload_n 0, 1), (129, .getfield 28, 3), (132, .aload_n 0, 1), (133, .getfield 34, 3), (136, .isub, 1), (137, .bipush 8, 2), (139, .if_icmp .gt 7, 3), (142, .iconst 1, 1), (143, .goto 4, 3), (146, .iconst 5, 1), (147, .putfield 37, 3), (150, .goto 162, 3), (153, .aload_n 0, 1), (154, .getfield 9, 3), (157, .aload_n 0, 1), (158, .getfield 34, 3), (161, .baload, 1), (162, .invokestatic 44, 3), (165, .ifCond .eq 96, 3), (168, .aload_n 0, 1), (169, .iconst 0, 1), (170, .putfield 47, 3), (173, .aload_n 0, 1), (174, .getfield 28, 3), (177, .aload_n 0, 1), (178, .getfield 25, 3), (181, .if_icmp .ge 55, 3), (184, .aload_n 0, 1), (185, .getfield 9, 3), (188, .aload_n 0, 1), (189, .getfield 28, 3), (192, .baload, 1), (193, .invokestatic 44, 3), (196, .ifCond .eq 40, 3), (199, .aload_n 0, 1), (200, .aload_n 0, 1), (201, .getfield 47, 3), (204, .bipush 10, 2), (206, .imul, 1), (207, .aload_n 0, 1), (208, .getfield 9, 3), (211, .aload_n 0, 1), (212, .getfield 28, 3), (215, .baload, 1), (216, .bipush 48, 2), (218, .isub, 1), (219, .iadd, 1), (220, .putfield 47, 3), (223, .aload_n 0, 1), (224, .dup, 1), (225, .getfield 28, 3), (228, .iconst 1, 1), (229, .iadd, 1), (230, .putfield 28, 3), (233, .goto (-60), 3), (236, .aload_n 0, 1), (237, .aload_n 0, 1), (238, .getfield 28, 3), (241, .aload_n 0, 1), (242, .getfield 34, 3), (245, .isub, 1), (246, .iconst 5, 1), (247, .if_icmp .gt 7, 3), (250, .iconst 2, 1), (251, .goto 4, 3), (254, .iconst 5, 1), (255, .putfield 37, 3), (258, .goto 54, 3), (261, .aload_n 0, 1), (262, .aload_n 0, 1), (263, .getfield 9, 3), (266, .aload_n 0, 1), (267, .getfield 34, 3), (270, .baload, 1), (271, .bipush 45, 2), (273, .if_icmp .ne 7, 3), (276, .iconst 3, 1), (277, .goto 22, 3), (280, .aload_n 0, 1), (281, .getfield 9, 3), (284, .aload_n 0, 1), (285, .getfield 34, 3), (288, .baload, 1), (289, .bipush 59, 2), (291, .if_icmp .ne 7, 3), (294, .iconst 4, 1), (295, .goto 4, 3), (298, .iconst 5, 1), (299, .putfield 37, 3), (302, .aload_n 0, 1), (303, .aload_n 0, 1), (304, .getfield 34, 3), (307, .iconst 1, 1), (308, .iadd, 1), (309, .putfield 28, 3), (312, .return_, 1)]
theorem dk_X2_advance : dkL cX2_advance ii_X2_advance = true := by decide +kernel
abbrev ii_X2_isWord : List (Nat × Instr × Nat) := [(0, .aload_n 0, 1), (1, .getfield 37, 3), (4, .iconst 1, 1), (5, .if_icmp .ne 19, 3), (8, .aload_n 0, 1), (9, .getfield 28, 3), (12, .aload_n 0, 1), (13, .getfield 34, 3), (16, .isub, 1), (17, .aload_n 1, 1), (18, .invokevirtual 50, 3), (21, .if_icmp .eq 5, 3), (24, .iconst 0, 1), (25, .ireturn, 1), (26, .iconst 0, 1), (27, .istore_n 2, 1), (28, .iload_n 2, 1), (29, .aload_n 1, 1), (30, .invokevirtual 50, 3), (33, .if_icmp .ge 30, 3), (36, .aload_n 0, 1), (37, .getfield 9, 3), (40, .aload_n 0, 1), (41, .getfield 34, 3), (44, .iload_n 2, 1), (45, .iadd, 1), (46, .baload, 1), (47, .aload_n 1, 1), (48, .iload_n 2, 1), (49, .invokevirtual 56, 3), (52, .if_icmp .eq 5, 3), (55, .iconst 0, 1), (56, .ireturn, 1), (57, .iinc 2 1, 3), (60, .goto (-32), 3), (63, .iconst 1, 1), (64, .ireturn, 1)]
theorem dk_X2_isWord : dkL cX2_isWord ii_X2_isWord = true := by decide +kernel
abbrev ii_X2_isLetter : List (Nat × Instr × Nat) := [(0, .iload_n 0, 1), (1, .bipush 97, 2), (3, .if_icmp .lt 13, 3), (6, .iload_n 0, 1), (7, .bipush 122, 2), (9, .if_icmp .gt 7, 3), (12, .iconst 1, 1), (13, .goto 4, 3), (16, .iconst 0, 1), (17, .ireturn, 1)]
theorem dk_X2_isLetter : dkL cX2_isLetter ii_X2_isLetter = true := by decide +kernel
abbrev ii_X2_isDigit : List (Nat × Instr × Nat) := [(0, .iload_n 0, 1), (1, .bipush 48, 2), (3, .if_icmp .lt 13, 3), (6, .iload_n 0, 1), (7, .bipush 57, 2), (9, .if_icmp .gt 7, 3), (12, .iconst 1, 1), (13, .goto 4, 3), (16, .iconst 0, 1), (17, .ireturn, 1)]
theorem dk_X2_isDigit : dkL cX2_isDigit ii_X2_isDigit = true := by decide +kernel
abbrev ii_X3_init : List (Nat × Instr × Nat) := [(0, .aload_n 0, 1), (1, .invokespecial 3, 3), (4, .aload_n 0, 1), (5, .bipush 7, 2), (7, .anewarray 9, 3), (10, .putfield 11, 3), (13, .aload_n 0, 1), (14, .iconst 2, 1), (15, .anewarray 9, 3), (18, .putfield 17, 3), (21, .iconst 0, 1), (22, .istore_n 1, 1), (23, .iload_n 1, 1), (24, .bipush 7, 2), (26, .if_icmp .ge 22, 3), (29, .aload_n 0, 1), (30, .getfield 11, 3), (33, .iload_n 1, 1), (34, .new 9, 3), (37, .dup, 1), (38, .invokespecial 20, 3), (41, .aastore, 1), (42, .iinc 1 1, 3), (45, .goto (-22), 3), (48, .iconst 0, 1), (49, .istore_n 1, 1), (50, .iload_n 1, 1), (51, .iconst 2, 1), (52, .if_icmp .ge 22, 3), (55, .aload_n 0, 1), (56, .getfield 17, 3), (59, .iload_n 1, 1), (60, .new 9, 3), (63, .dup, 1), (64, .invokespecial 20, 3), (67, .aastore, 1), (68, .iinc 1 1, 3), (71, .goto (-21), 3), (74, .return_, 1)]
theorem dk_X3_init : dkL cX3_init ii_X3_init = true := by decide +kernel
abbrev ii_X3_forget : List (Nat × Instr × Nat) := [(0, .aload_n 0, 1), (1, .iconst 0, 1), (2, .putfield 21, 3), (5, .aload_n 0, 1), (6, .iconst 0, 1), (7, .putfield 25, 3), (10, .return_, 1)]
theorem dk_X3_forget : dkL cX3_forget ii_X3_forget = true := by decide +kernel
abbrev ii_X3_keep : List (Nat × Instr × Nat) := [(0, .aload_n 0, 1), (1, .getfield 21, 3), (4, .bipush 7, 2), (6, .if_icmp .ne 7, 3), (9, .aload_n 0, 1), (10, .invokevirtual 28, 3), (13, .aload_n 0, 1), (14, .getfield 11, 3), (17, .aload_n 0, 1), (18, .getfield 21, 3), (21, .aaload, 1), (22, .aload_n 1, 1), (23, .invokevirtual 31, 3), (26, .aload_n 0, 1), (27, .dup, 1), (28, .getfield 21, 3), (31, .iconst 1, 1), (32, .iadd, 1), (33, .putfield 21, 3), (36, .return_, 1)]
theorem dk_X3_keep : dkL cX3_keep ii_X3_keep = true := by decide +kernel
abbrev ii_X3_giveBack : List (Nat × Instr × Nat) := [(0, .aload_n 0, 1), (1, .getfield 21, 3), (4, .ifCond .le 26, 3), (7, .aload_n 0, 1), (8, .dup, 1), (9, .getfield 21, 3), (12, .iconst 1, 1), (13, .isub, 1), (14, .putfield 21, 3), (17, .aload_n 1, 1), (18, .aload_n 0, 1), (19, .getfield 11, 3), (22, .aload_n 0, 1), (23, .getfield 21, 3), (26, .aaload, 1), (27, .invokevirtual 31, 3), (30, .return_, 1)]
theorem dk_X3_giveBack : dkL cX3_giveBack ii_X3_giveBack = true := by decide +kernel
abbrev ii_X3_dropOldest : List (Nat × Instr × Nat) := [(0, .aload_n 0, 1), (1, .getfield 11, 3), (4, .iconst 0, 1), (5, .aaload, 1), (6, .astore_n 1, 1), (7, .iconst 1, 1), (8, .istore_n 2, 1), (9, .iload_n 2, 1), (10, .bipush 7, 2), (12, .if_icmp .ge 23, 3), (15, .aload_n 0, 1), (16, .getfield 11, 3), (19, .iload_n 2, 1), (20, .iconst 1, 1), (21, .isub, 1), (22, .aload_n 0, 1), (23, .getfield 11, 3), (26, .iload_n 2, 1), (27, .aaload, 1), (28, .aastore, 1), (29, .iinc 2 1, 3), (32, .goto (-23), 3), (35, .aload_n 0, 1), (36, .getfield 11, 3), (39, .bipush 6, 2), (41, .aload_n 1, 1), (42, .aastore, 1), (43, .aload_n 0, 1), (44, .bipush 6, 2), (46, .putfield 21, 3), (49, .return_, 1)]
theorem dk_X3_dropOldest : dkL cX3_dropOldest ii_X3_dropOldest = true := by decide +kernel
abbrev ii_X3_isFull : List (Nat × Instr × Nat) := [(0, .aload_n 0, 1), (1, .getfield 25, 3), (4, .iload_n 1, 1), (5, .ishr, 1), (6, .iconst 1, 1), (7, .iand, 1), (8, .iconst 1, 1), (9, .if_icmp .ne 7, 3), (12, .iconst 1, 1), (13, .goto 4, 3), (16, .iconst 0, 1), (17, .ireturn, 1)]
theorem dk_X3_isFull : dkL cX3_isFull ii_X3_isFull = true := by decide +kernel
abbrev ii_X3_put : List (Nat × Instr × Nat) := [(0, .aload_n 0, 1), (1, .getfield 17, 3), (4, .iload_n 1, 1), (5, .aaload, 1), (6, .aload_n 2, 1), (7, .invokevirtual 31, 3), (10, .aload_n 0, 1), (11, .dup, 1), (12, .getfield 25, 3), (15, .iconst 1, 1), (16, .iload_n 1, 1), (17, .ishl, 1), (18, .ior, 1), (19, .putfield 25, 3), (22, .return_, 1)]
theorem dk_X3_put : dkL cX3_put ii_X3_put = true := by decide +kernel
abbrev ii_X3_take : List (Nat × Instr × Nat) := [(0, .aload_n 2, 1), (1, .aload_n 0, 1), (2, .getfield 17, 3), (5, .iload_n 1, 1), (6, .aaload, 1), (7, .invokevirtual 31, 3), (10, .aload_n 0, 1), (11, .iconst 0, 1), (12, .putfield 21, 3), (15, .return_, 1)]
theorem dk_X3_take : dkL cX3_take ii_X3_take = true := by decide +kernel
abbrev ii_X4_init : List (Nat × Instr × Nat) := [(0, .aload_n 0, 1), (1, .invokespecial 3, 3), (4, .aload_n 0, 1), (5, .new 9, 3), (8, .dup, 1), (9, .invokespecial 11, 3), (12, .putfield 12, 3), (15, .aload_n 0, 1), (16, .new 18, 3), (19, .dup, 1), (20, .invokespecial 20, 3), (23, .putfield 21, 3), (26, .aload_n 0, 1), (27, .iconst (-1), 1), (28, .putfield 25, 3), (31, .aload_n 0, 1), (32, .aload_n 1, 1), (33, .putfield 29, 3), (36, .return_, 1)]
theorem dk_X4_init : dkL cX4_init ii_X4_init = true := by decide +kernel
abbrev ii_X4_parse : List (Nat × Instr × Nat) := [(0, .aload_n 0, 1), (1, .iconst 0, 1), (2, .putfield 33, 3), (5, .aload_n 0, 1), (6, .iconst (-1), 1), (7, .putfield 25, 3), (10, .aload_n 0, 1), (11, .iconst 0, 1), (12, .putfield 36, 3), (15, .aload_n 0, 1), (16, .getfield 12, 3), (19, .invokevirtual 39, 3), (22, .aload_n 0, 1), (23, .getfield 21, 3), (26, .invokevirtual 42, 3), (29, .aload_n 0, 1), (30, .getfield 29, 3), (33, .iload_n 1, 1), (34, .invokevirtual 43, 3), (37, .aload_n 0, 1), (38, .invokevirtual 49, 3), (41, .ifCond .ne 5, 3), (44, .iconst 0, 1), (45, .ireturn, 1), (46, .iconst 0, 1), (47, .istore_n 2, 1), (48, .iload_n 2, 1), (49, .sipush 1200, 3), (52, .if_icmp .ge 36, 3), (55, .aload_n 0, 1), (56, .getfield 29, 3), (59, .getfield 53, 3), (62, .iconst 4, 1), (63, .if_icmp .ne 25, 3), (66, .aload_n 0, 1), (67, .getfield 29, 3), (70, .invokevirtual 56, 3), (73, .aload_n 0, 1), (74, .invokevirtual 59, 3), (77, .ifCond .ne 5, 3), (80, .iconst 0, 1), (81, .ireturn, 1), (82, .iinc 2 1, 3), (85, .goto (-37), 3), (88, .aload_n 0, 1), (89, .getfield 29, 3), (92, .getfield 53, 3), (95, .ifCond .ne 10, 3), (98, .aload_n 0, 1), (99, .invokevirtual 62, 3), (102, .goto 8, 3), (105, .aload_n 0, 1), (106, .iconst 1, 1), (107, .invokevirtual 65, 3), (110, .ireturn, 1)]
theorem dk_X4_parse : dkL cX4_parse ii_X4_parse = true := by decide +kernel
abbrev ii_X4_fail : List (Nat × Instr × Nat) := [(0, .aload_n 0, 1), (1, .iload_n 1, 1), (2, .putfield 33, 3), (5, .aload_n 0, 1), (6, .aload_n 0, 1), (7, .getfield 29, 3), (10, .getfield 69, 3), (13, .putfield 25, 3), (16, .iconst 0, 1), (17, .ireturn, 1)]
theorem dk_X4_fail : dkL cX4_fail ii_X4_fail = true := by decide +kernel
abbrev ii_X4_takeWord : List (Nat × Instr × Nat) := [(0, .aload_n 0, 1), (1, .getfield 29, 3), (4, .aload_n 1, 1), (5, .invokevirtual 72, 3), (8, .ifCond .ne 9, 3), (11, .aload_n 0, 1), (12, .iconst 1, 1), (13, .invokevirtual 65, 3), (16, .ireturn, 1), (17, .aload_n 0, 1), (18, .getfield 29, 3), (21, .invokevirtual 56, 3), (24, .iconst 1, 1), (25, .ireturn, 1)]
theorem dk_X4_takeWord : dkL cX4_takeWord ii_X4_takeWord = true := by decide +kernel
abbrev ii_X4_seeNumber : List (Nat × Instr × Nat) := [(0, .aload_n 0, 1), (1, .getfield 29, 3), (4, .getfield 53, 3), (7, .iconst 2, 1), (8, .if_icmp .eq 9, 3), (11, .aload_n 0, 1), (12, .iconst 1, 1), (13, .invokevirtual 65, 3), (16, .ireturn, 1), (17, .aload_n 0, 1), (18, .aload_n 0, 1), (19, .getfield 29, 3), (22, .getfield 76, 3), (25, .putfield 79, 3), (28, .aload_n 0, 1), (29, .getfield 79, 3), (32, .iload_n 1, 1), (33, .if_icmp .lt 11, 3), (36, .aload_n 0, 1), (37, .getfield 79, 3), (40, .iload_n 2, 1), (41, .if_icmp .le 11, 3), (44, .aload_n 0, 1), (45, .iconst 2, 1), (46, .invokevirtual 65, 3), (49, .ifCond .eq 7, 3), (52, .iconst 1, 1), (53, .goto 4, 3), (56, .iconst 0, 1), (57, .ireturn, 1)]
theorem dk_X4_seeNumber : dkL cX4_seeNumber ii_X4_seeNumber = true := by decide +kernel
abbrev ii_X4_takeNumber : List (Nat × Instr × Nat) := [(0, .aload_n 0, 1), (1, .iload_n 1, 1), (2, .iload_n 2, 1), (3, .invokevirtual 82, 3), (6, .ifCond .ne 5, 3), (9, .iconst 0, 1), (10, .ireturn, 1), (11, .aload_n 0, 1), (12, .getfield 29, 3), (15, .invokevirtual 56, 3), (18, .iconst 1, 1), (19, .ireturn, 1)]
theorem dk_X4_takeNumber : dkL cX4_takeNumber ii_X4_takeNumber = true := by decide +kernel
abbrev ii_X4_seeState : List (Nat × Instr × Nat) := [(0, .aload_n 0, 1), (1, .iconst 0, 1), (2, .aload_n 0, 1), (3, .getfield 12, 3), (6, .getfield 86, 3), (9, .iconst 1, 1), (10, .isub, 1), (11, .invokevirtual 82, 3), (14, .ireturn, 1)]
theorem dk_X4_seeState : dkL cX4_seeState ii_X4_seeState = true := by decide +kernel
abbrev ii_X4_parseHead : List (Nat × Instr × Nat) := [(0, .aload_n 0, 1), (1, .ldc 89, 2), (3, .invokevirtual 90, 3), (6, .ifCond .eq 22, 3), (9, .aload_n 0, 1), (10, .ldc 93, 2), (12, .invokevirtual 90, 3), (15, .ifCond .eq 13, 3), (18, .aload_n 0, 1), (19, .iconst 1, 1), (20, .bipush 6, 2), (22, .invokevirtual 94, 3), (25, .ifCond .ne 5, 3), (28, .iconst 0, 1), (29, .ireturn, 1), (30, .aload_n 0, 1), (31, .getfield 12, 3), (34, .aload_n 0, 1), (35, .getfield 79, 3), (38, .putfield 86, 3), (41, .aload_n 0, 1), (42, .ldc 97, 2), (44, .invokevirtual 90, 3), (47, .ifCond .eq 12, 3), (50, .aload_n 0, 1), (51, .iconst 1, 1), (52, .iconst 5, 1), (53, .invokevirtual 94, 3), (56, .ifCond .ne 5, 3), (59, .iconst 0, 1), (60, .ireturn, 1), (61, .aload_n 0, 1), (62, .getfield 21, 3), (65, .aload_n 0, 1), (66, .getfield 79, 3), (69, .putfield 99, 3), (72, .aload_n 0, 1), (73, .ldc 101, 2), (75, .invokevirtual 90, 3), (78, .ifCond .eq 14, 3), (81, .aload_n 0, 1), (82, .iconst 0, 1), (83, .sipush 30010, 3), (86, .invokevirtual 94, 3), (89, .ifCond .ne 5, 3), (92, .iconst 0, 1), (93, .ireturn, 1), (94, .aload_n 0, 1), (95, .getfield 21, 3), (98, .aload_n 0, 1), (99, .getfield 79, 3), (102, .putfield 103, 3), (105, .iconst 1, 1), (106, .ireturn, 1)]
theorem dk_X4_parseHead : dkL cX4_parseHead ii_X4_parseHead = true := by decide +kernel
abbrev ii_X4_parseLine : List (Nat × Instr × Nat) := [(0, .aload_n 0, 1), (1, .getfield 29, 3), (4, .ldc 105, 2), (6, .invokevirtual 72, 3), (9, .ifCond .eq 8, 3), (12, .aload_n 0, 1), (13, .invokevirtual 107, 3), (16, .ireturn, 1), (17, .aload_n 0, 1), (18, .getfield 29, 3), (21, .ldc 110, 2), (23, .invokevirtual 72, 3), (26, .ifCond .eq 8, 3), (29, .aload_n 0, 1), (30, .invokevirtual 112, 3), (33, .ireturn, 1), (34, .aload_n 0, 1), (35, .getfield 29, 3), (38, .ldc 115, 2), (40, .invokevirtual 72, 3), (43, .ifCond .eq 8, 3), (46, .aload_n 0, 1), (47, .invokevirtual 117, 3), (50, .ireturn, 1), (51, .aload_n 0, 1), (52, .invokevirtual 120, 3), (55, .ireturn, 1)]
theorem dk_X4_parseLine : dkL cX4_parseLine ii_X4_parseLine = true := by decide +kernel
abbrev ii_X4_parseBudget : List (Nat × Instr × Nat) := [(0, .aload_n 0, 1), (1, .getfield 12, 3), (4, .getfield 123, 3), (7, .iconst 3, 1), (8, .if_icmp .lt 9, 3), (11, .aload_n 0, 1), (12, .iconst 4, 1), (13, .invokevirtual 65, 3), (16, .ireturn, 1), (17, .aload_n 0, 1), (18, .getfield 29, 3), (21, .invokevirtual 56, 3), (24, .aload_n 0, 1), (25, .iconst 0, 1), (26, .sipush 9999, 3), (29, .invokevirtual 94, 3), (32, .ifCond .ne 5, 3), (35, .iconst 0, 1), (36, .ireturn, 1), (37, .aload_n 0, 1), (38, .getfield 21, 3), (41, .getfield 126, 3), (44, .aload_n 0, 1), (45, .getfield 12, 3), (48, .getfield 123, 3), (51, .aload_n 0, 1), (52, .getfield 79, 3), (55, .iastore, 1), (56, .aload_n 0, 1), (57, .getfield 12, 3), (60, .dup, 1), (61, .getfield 123, 3), (64, .iconst 1, 1), (65, .iadd, 1), (66, .putfield 123, 3), (69, .iconst 1, 1), (70, .ireturn, 1)]
theorem dk_X4_parseBudget : dkL cX4_parseBudget ii_X4_parseBudget = true := by decide +kernel
abbrev ii_X4_parseStart : List (Nat × Instr × Nat) := [(0, .aload_n 0, 1), (1, .ldc 130, 2), (3, .invokevirtual 90, 3), (6, .ifCond .eq 10, 3), (9, .aload_n 0, 1), (10, .invokevirtual 132, 3), (13, .ifCond .ne 5, 3), (16, .iconst 0, 1), (17, .ireturn, 1), (18, .aload_n 0, 1), (19, .getfield 21, 3), (22, .aload_n 0, 1), (23, .getfield 79, 3), (26, .putfield 135, 3), (29, .aload_n 0, 1), (30, .getfield 29, 3), (33, .invokevirtual 56, 3), (36, .iconst 1, 1), (37, .ireturn, 1)]
theorem dk_X4_parseStart : dkL cX4_parseStart ii_X4_parseStart = true := by decide +kernel
abbrev ii_X4_parseAct : List (Nat × Instr × Nat) := [(0, .aload_n 0, 1), (1, .getfield 29, 3), (4, .invokevirtual 56, 3), (7, .aload_n 0, 1), (8, .invokevirtual 132, 3), (11, .ifCond .ne 5, 3), (14, .iconst 0, 1), (15, .ireturn, 1), (16, .aload_n 0, 1), (17, .getfield 79, 3), (20, .istore_n 1, 1), (21, .aload_n 0, 1), (22, .getfield 12, 3), (25, .getfield 137, 3), (28, .iload_n 1, 1), (29, .iaload, 1), (30, .iconst 3, 1), (31, .if_icmp .lt 9, 3), (34, .aload_n 0, 1), (35, .iconst 4, 1), (36, .invokevirtual 65, 3), (39, .ireturn, 1), (40, .aload_n 0, 1), (41, .getfield 29, 3), (44, .invokevirtual 56, 3), (47, .iload_n 1, 1), (48, .aload_n 0, 1), (49, .getfield 12, 3), (52, .getfield 137, 3), (55, .iload_n 1, 1), (56, .iaload, 1), (57, .invokestatic 140, 3), (60, .istore_n 2, 1), (61, .aload_n 0, 1), (62, .iload_n 2, 1), (63, .invokevirtual 144, 3), (66, .ifCond .eq 19, 3), (69, .aload_n 0, 1), (70, .iload_n 2, 1), (71, .invokevirtual 147, 3), (74, .ifCond .eq 11, 3), (77, .aload_n 0, 1), (78, .iload_n 2, 1), (79, .invokevirtual 150, 3), (82, .ifCond .ne 5, 3), (85, .iconst 0, 1), (86, .ireturn, 1), (87, .aload_n 0, 1), (88, .getfield 12, 3), (91, .getfield 137, 3), (94, .iload_n 1, 1), (95, .dup2, 1), (96, .iaload, 1), (97, .iconst 1, 1), (98, .iadd, 1), (99, .iastore, 1), (100, .iconst 1, 1), (101, .ireturn, 1)]
theorem dk_X4_parseAct : dkL cX4_parseAct ii_X4_parseAct = true := by decide +kernel
abbrev ii_X4_parseGain : List (Nat × Instr × Nat) := [(0, .aload_n 0, 1), (1, .getfield 29, 3), (4, .getfield 53, 3), (7, .iconst 3, 1), (8, .if_icmp .ne 7, 3), (11, .iconst 1, 1), (12, .goto 4, 3), (15, .iconst 0, 1), (16, .istore_n 2, 1), (17, .iload_n 2, 1), (18, .ifCond .eq 10, 3), (21, .aload_n 0, 1), (22, .getfield 29, 3), (25, .invokevirtual 56, 3), (28, .aload_n 0, 1), (29, .iconst 0, 1), (30, .sipush 999, 3), (33, .invokevirtual 94, 3), (36, .ifCond .ne 5, 3), (39, .iconst 0, 1), (40, .ireturn, 1), (41, .aload_n 0, 1), (42, .getfield 12, 3), (45, .getfield 153, 3), (48, .iload_n 1, 1), (49, .iload_n 2, 1), (50, .ifCond .eq 11, 3), (53, .aload_n 0, 1), (54, .getfield 79, 3), (57, .ineg, 1), (58, .goto 7, 3), (61, .aload_n 0, 1), (62, .getfield 79, 3), (65, .iastore, 1), (66, .iconst 1, 1), (67, .ireturn, 1)]
theorem dk_X4_parseGain : dkL cX4_parseGain ii_X4_parseGain = true := by decide +kernel
abbrev ii_X4_parseUses : List (Nat × Instr × Nat) := [(0, .iconst 0, 1), (1, .istore_n 2, 1), (2, .iload_n 2, 1), (3, .iconst 3, 1), (4, .if_icmp .gt 106, 3), (7, .aload_n 0, 1), (8, .getfield 29, 3), (11, .ldc 156, 2), (13, .invokevirtual 72, 3), (16, .ifCond .eq 94, 3), (19, .aload_n 0, 1), (20, .getfield 29, 3), (23, .invokevirtual 56, 3), (26, .aload_n 0, 1), (27, .iconst 0, 1), (28, .aload_n 0, 1), (29, .getfield 12, 3), (32, .getfield 123, 3), (35, .iconst 1, 1), (36, .isub, 1), (37, .invokevirtual 82, 3), (40, .ifCond .ne 5, 3), (43, .iconst 0, 1), (44, .ireturn, 1), (45, .aload_n 0, 1), (46, .getfield 79, 3), (49, .istore_n 3, 1), (50, .aload_n 0, 1), (51, .getfield 12, 3), (54, .iload_n 1, 1), (55, .iload_n 3, 1), (56, .invokevirtual 158, 3), (59, .ifCond .eq 9, 3), (62, .aload_n 0, 1), (63, .iconst 3, 1), (64, .invokevirtual 65, 3), (67, .ireturn, 1), (68, .aload_n 0, 1), (69, .getfield 29, 3), (72, .invokevirtual 56, 3), (75, .aload_n 0, 1), (76, .iconst 1, 1), (77, .bipush 99, 2), (79, .invokevirtual 94, 3), (82, .ifCond .ne 5, 3), (85, .iconst 0, 1), (86, .ireturn, 1), (87, .aload_n 0, 1), (88, .getfield 12, 3), (91, .getfield 161, 3), (94, .iload_n 1, 1), (95, .iconst 3, 1), (96, .imul, 1), (97, .iload_n 3, 1), (98, .iadd, 1), (99, .aload_n 0, 1), (100, .getfield 79, 3), (103, .iastore, 1), (104, .iinc 2 1, 3), (107, .goto (-105), 3), (110, .iconst 1, 1), (111, .ireturn, 1)]
theorem dk_X4_parseUses : dkL cX4_parseUses ii_X4_parseUses = true := by decide +kernel
abbrev ii_X4_parsePercents : List (Nat × Instr × Nat) := [(0, .bipush 100, 2), (2, .istore_n 2, 1), (3, .iconst 0, 1), (4, .istore_n 3, 1), (5, .iload_n 3, 1), (6, .bipush 6, 2), (8, .if_icmp .gt 101, 3), (11, .aload_n 0, 1), (12, .getfield 29, 3), (15, .ldc 164, 2), (17, .invokevirtual 72, 3), (20, .ifCond .eq 89, 3), (23, .aload_n 0, 1), (24, .getfield 29, 3), (27, .invokevirtual 56, 3), (30, .aload_n 0, 1), (31, .invokevirtual 132, 3), (34, .ifCond .ne 5, 3), (37, .iconst 0, 1), (38, .ireturn, 1), (39, .aload_n 0, 1), (40, .getfield 79, 3), (43, .istore 4, 2), (45, .aload_n 0, 1), (46, .getfield 12, 3), (49, .iload_n 1, 1), (50, .iload 4, 2), (52, .invokevirtual 166, 3), (55, .ifCond .eq 9, 3), (58, .aload_n 0, 1), (59, .iconst 3, 1), (60, .invokevirtual 65, 3), (63, .ireturn, 1), (64, .aload_n 0, 1), (65, .getfield 29, 3), (68, .invokevirtual 56, 3), (71, .aload_n 0, 1), (72, .iconst 1, 1), (73, .iload_n 2, 1), (74, .invokevirtual 94, 3), (77, .ifCond .ne 5, 3), (80, .iconst 0, 1), (81, .ireturn, 1), (82, .aload_n 0, 1), (83, .getfield 12, 3), (86, .iload_n 1, 1), (87, .iload 4, 2), (89, .aload_n 0, 1), (90, .getfield 79, 3), (93, .invokevirtual 169, 3), (96, .iload_n 2, 1), (97, .aload_n 0, 1), (98, .getfield 79, 3), (101, .isub, 1), (102, .istore_n 2, 1), (103, .iinc 3 1, 3), (106, .goto (-101), 3), (109, .aload_n 0, 1), (110, .iload_n 2, 1), (111, .invokevirtual 173, 3), (114, .ireturn, 1)]
theorem dk_X4_parsePercents : dkL cX4_parsePercents ii_X4_parsePercents = true := by decide +kernel
abbrev ii_X4_parseRule : List (Nat × Instr × Nat) := [(0, .aload_n 0, 1), (1, .getfield 29, 3), (4, .invokevirtual 56, 3), (7, .aload_n 0, 1), (8, .invokevirtual 132, 3), (11, .ifCond .ne 5, 3), (14, .iconst 0, 1), (15, .ireturn, 1), (16, .aload_n 0, 1), (17, .getfield 79, 3), (20, .istore_n 1, 1), (21, .aload_n 0, 1), (22, .getfield 36, 3), (25, .iload_n 1, 1), (26, .ishr, 1), (27, .iconst 1, 1), (28, .iand, 1), (29, .iconst 1, 1), (30, .if_icmp .ne 9, 3), (33, .aload_n 0, 1), (34, .iconst 3, 1), (35, .invokevirtual 65, 3), (38, .ireturn, 1), (39, .aload_n 0, 1), (40, .dup, 1), (41, .getfield 36, 3), (44, .iconst 1, 1), (45, .iload_n 1, 1), (46, .ishl, 1), (47, .ior, 1), (48, .putfield 36, 3), (51, .aload_n 0, 1), (52, .getfield 29, 3), (55, .invokevirtual 56, 3), (58, .aload_n 0, 1), (59, .iload_n 1, 1), (60, .invokevirtual 176, 3), (63, .ireturn, 1)]
theorem dk_X4_parseRule : dkL cX4_parseRule ii_X4_parseRule = true := by decide +kernel
abbrev ii_X4_parseWeights : List (Nat × Instr × Nat) := [(0, .aload_n 0, 1), (1, .getfield 29, 3), (4, .getfield 53, 3), (7, .iconst 2, 1), (8, .if_icmp .eq 9, 3), (11, .aload_n 0, 1), (12, .iconst 1, 1), (13, .invokevirtual 65, 3), (16, .ireturn, 1), (17, .bipush 10, 2), (19, .istore_n 2, 1), (20, .iconst 0, 1), (21, .istore_n 3, 1), (22, .iload_n 3, 1), (23, .iconst 3, 1), (24, .if_icmp .gt 74, 3), (27, .aload_n 0, 1), (28, .getfield 29, 3), (31, .getfield 53, 3), (34, .iconst 2, 1), (35, .if_icmp .ne 63, 3), (38, .iload_n 3, 1), (39, .aload_n 0, 1), (40, .getfield 12, 3), (43, .getfield 137, 3), (46, .iload_n 1, 1), (47, .iaload, 1), (48, .if_icmp .lt 9, 3), (51, .aload_n 0, 1), (52, .iconst 1, 1), (53, .invokevirtual 65, 3), (56, .ireturn, 1), (57, .aload_n 0, 1), (58, .iconst 0, 1), (59, .iload_n 2, 1), (60, .invokevirtual 94, 3), (63, .ifCond .ne 5, 3), (66, .iconst 0, 1), (67, .ireturn, 1), (68, .aload_n 0, 1), (69, .getfield 21, 3), (72, .getfield 179, 3), (75, .iload_n 1, 1), (76, .iload_n 3, 1), (77, .invokestatic 140, 3), (80, .aload_n 0, 1), (81, .getfield 79, 3), (84, .iastore, 1), (85, .iload_n 2, 1), (86, .aload_n 0, 1), (87, .getfield 79, 3), (90, .isub, 1), (91, .istore_n 2, 1), (92, .iinc 3 1, 3), (95, .goto (-73), 3), (98, .aload_n 0, 1), (99, .iload_n 2, 1), (100, .invokevirtual 173, 3), (103, .ireturn, 1)]
theorem dk_X4_parseWeights : dkL cX4_parseWeights ii_X4_parseWeights = true := by decide +kernel
abbrev ii_X4_endLine : List (Nat × Instr × Nat) := [(0, .aload_n 0, 1), (1, .getfield 29, 3), (4, .getfield 53, 3), (7, .iconst 4, 1), (8, .if_icmp .eq 19, 3), (11, .aload_n 0, 1), (12, .getfield 29, 3), (15, .getfield 53, 3), (18, .ifCond .eq 9, 3), (21, .aload_n 0, 1), (22, .iconst 1, 1), (23, .invokevirtual 65, 3), (26, .ireturn, 1), (27, .iload_n 1, 1), (28, .ifCond .eq 11, 3), (31, .aload_n 0, 1), (32, .iconst 5, 1), (33, .invokevirtual 65, 3), (36, .ifCond .eq 7, 3), (39, .iconst 1, 1), (40, .goto 4, 3), (43, .iconst 0, 1), (44, .ireturn, 1)]
theorem dk_X4_endLine : dkL cX4_endLine ii_X4_endLine = true := by decide +kernel
abbrev ii_X4_checkStates : List (Nat × Instr × Nat) := [(0, .iconst 0, 1), (1, .istore_n 1, 1), (2, .iload_n 1, 1), (3, .aload_n 0, 1), (4, .getfield 12, 3), (7, .getfield 86, 3), (10, .if_icmp .ge 28, 3), (13, .aload_n 0, 1), (14, .getfield 12, 3), (17, .getfield 137, 3), (20, .iload_n 1, 1), (21, .iaload, 1), (22, .ifCond .ne 10, 3), (25, .aload_n 0, 1), (26, .bipush 6, 2), (28, .invokevirtual 65, 3), (31, .ireturn, 1), (32, .iinc 1 1, 3), (35, .goto (-33), 3), (38, .iconst 1, 1), (39, .ireturn, 1)]
theorem dk_X4_checkStates : dkL cX4_checkStates ii_X4_checkStates = true := by decide +kernel
abbrev ii_X5_init : List (Nat × Instr × Nat) := [(0, .aload_n 0, 1), (1, .invokespecial 3, 3), (4, .aload_n 0, 1), (5, .sipush 729, 3), (8, .newarray .long, 2), (10, .putfield 9, 3), (13, .aload_n 0, 1), (14, .sipush 2187, 3), (17, .newarray .long, 2), (19, .putfield 15, 3), (22, .aload_n 0, 1), (23, .iconst (-1), 1), (24, .putfield 18, 3), (27, .aload_n 0, 1), (28, .iconst (-1), 1), (29, .putfield 22, 3), (32, .aload_n 0, 1), (33, .bipush 6, 2), (35, .newarray .int, 2), (37, .putfield 25, 3), (40, .aload_n 0, 1), (41, .bipush 18, 2), (43, .newarray .int, 2), (45, .putfield 29, 3), (48, .aload_n 0, 1), (49, .bipush 6, 2), (51, .newarray .int, 2), (53, .putfield 32, 3), (56, .aload_n 0, 1), (57, .aload_n 1, 1), (58, .putfield 35, 3), (61, .aload_n 0, 1), (62, .aload_n 2, 1), (63, .putfield 39, 3), (66, .aload_n 0, 1), (67, .aload_n 3, 1), (68, .putfield 43, 3), (71, .return_, 1)]
theorem dk_X5_init : dkL cX5_init ii_X5_init = true := by decide +kernel
abbrev ii_X5_forget : List (Nat × Instr × Nat) := [(0, .aload_n 0, 1), (1, .iconst (-1), 1), (2, .putfield 18, 3), (5, .return_, 1)]
theorem dk_X5_forget : dkL cX5_forget ii_X5_forget = true := by decide +kernel
abbrev ii_X5_findBest : List (Nat × Instr × Nat) := [(0, .aload_n 0, 1), (1, .invokevirtual 47, 3), (4, .ldc2_w 50, 3), (7, .lstore_n 3, 1), (8, .aload_n 0, 1), (9, .invokevirtual 52, 3), (12, .istore 5, 2), (14, .iconst 0, 1), (15, .istore 6, 2), (17, .iload 6, 2), (19, .sipush 729, 3), (22, .if_icmp .ge 71, 3), (25, .iload 5, 2), (27, .ifCond .eq 66, 3), (30, .aload_n 0, 1), (31, .invokevirtual 56, 3), (34, .ifCond .eq 47, 3), (37, .aload_n 0, 1), (38, .iload_n 1, 1), (39, .iload_n 2, 1), (40, .invokevirtual 59, 3), (43, .ifCond .eq 38, 3), (46, .aload_n 0, 1), (47, .getfield 9, 3), (50, .aload_n 0, 1), (51, .getfield 63, 3), (54, .laload, 1), (55, .lload_n 3, 1), (56, .lcmp, 1), (57, .ifCond .le 24, 3), (60, .aload_n 0, 1), (61, .getfield 9, 3), (64, .aload_n 0, 1), (65, .getfield 63, 3), (68, .laload, 1), (69, .lstore_n 3, 1), (70, .aload_n 0, 1), (71, .getfield 25, 3), (74, .aload_n 0, 1), (75, .getfield 32, 3), (78, .invokestatic 66, 3), (81, .aload_n 0, 1), (82, .invokevirtual 70, 3), (85, .istore 5, 2), (87, .iinc 6 1, 3), (90, .goto (-73), 3), (93, .lload_n 3, 1), (94, .lreturn, 1)]
theorem dk_X5_findBest : dkL cX5_findBest ii_X5_findBest = true := by decide +kernel
abbrev ii_X5_writeWeights : List (Nat × Instr × Nat) := [(0, .iconst 0, 1), (1, .istore_n 3, 1), (2, .iload_n 3, 1), (3, .aload_n 0, 1), (4, .getfield 35, 3), (7, .getfield 83, 3), (10, .if_icmp .ge 28, 3), (13, .aload_n 2, 1), (14, .iload_n 3, 1), (15, .iconst 0, 1), (16, .iconst 0, 1), (17, .iconst 0, 1), (18, .invokestatic 88, 3), (21, .aload_n 2, 1), (22, .iload_n 3, 1), (23, .aload_n 1, 1), (24, .iload_n 3, 1), (25, .iaload, 1), (26, .invokestatic 92, 3), (29, .bipush 10, 2), (31, .iastore, 1), (32, .iinc 3 1, 3), (35, .goto (-33), 3), (38, .return_, 1)]
theorem dk_X5_writeWeights : dkL cX5_writeWeights ii_X5_writeWeights = true := by decide +kernel
abbrev ii_X5_fill : List (Nat × Instr × Nat) := [(0, .aload_n 0, 1), (1, .getfield 18, 3), (4, .aload_n 0, 1), (5, .getfield 39, 3), (8, .getfield 95, 3), (11, .if_icmp .ne 18, 3), (14, .aload_n 0, 1), (15, .getfield 22, 3), (18, .aload_n 0, 1), (19, .getfield 39, 3), (22, .getfield 100, 3), (25, .if_icmp .ne 4, 3), (28, .return_, 1), (29, .aload_n 0, 1), (30, .invokevirtual 52, 3), (33, .istore_n 1, 1), (34, .iconst 0, 1), (35, .istore_n 2, 1), (36, .iload_n 2, 1), (37, .sipush 729, 3), (40, .if_icmp .ge 119, 3), (43, .iload_n 1, 1), (44, .ifCond .eq 115, 3), (47, .aload_n 0, 1), (48, .aload_n 0, 1), (49, .getfield 25, 3), (52, .aload_n 0, 1), (53, .getfield 29, 3), (56, .invokevirtual 103, 3), (59, .aload_n 0, 1), (60, .getfield 43, 3), (63, .aload_n 0, 1), (64, .getfield 29, 3), (67, .aload_n 0, 1), (68, .getfield 39, 3), (71, .getfield 95, 3), (74, .aload_n 0, 1), (75, .getfield 39, 3), (78, .getfield 100, 3), (81, .invokevirtual 106, 3), (84, .aload_n 0, 1), (85, .getfield 9, 3), (88, .aload_n 0, 1), (89, .getfield 63, 3), (92, .aload_n 0, 1), (93, .getfield 43, 3), (96, .aload_n 0, 1), (97, .getfield 29, 3), (100, .invokevirtual 112, 3), (103, .lastore, 1), (104, .iconst 0, 1), (105, .istore_n 3, 1), (106, .iload_n 3, 1), (107, .aload_n 0, 1), (108, .getfield 35, 3), (111, .getfield 116, 3), (114, .if_icmp .ge 34, 3), (117, .aload_n 0, 1), (118, .getfield 15, 3), (121, .aload_n 0, 1), (122, .getfield 63, 3), (125, .iconst 3, 1), (126, .imul, 1), (127, .iload_n 3, 1), (128, .iadd, 1), (129, .aload_n 0, 1), (130, .getfield 43, 3), (133, .aload_n 0, 1), (134, .getfield 29, 3), (137, .iload_n 3, 1), (138, .invokevirtual 119, 3), (141, .lastore, 1), (142, .iinc 3 1, 3), (145, .goto (-39), 3), (148, .aload_n 0, 1), (149, .invokevirtual 70, 3), (152, .istore_n 1, 1), (153, .iinc 2 1, 3), (156, .goto (-120), 3), (159, .aload_n 0, 1), (160, .aload_n 0, 1), (161, .getfield 39, 3), (164, .getfield 95, 3), (167, .putfield 18, 3), (170, .aload_n 0, 1), (171, .aload_n 0, 1), (172, .getfield 39, 3), (175, .getfield 100, 3), (178, .putfield 22, 3), (181, .return_, 1)]
theorem dk_X5_fill : dkL cX5_fill ii_X5_fill = true := by decide +kernel
abbrev ii_X5_begin : List (Nat × Instr × Nat) := [(0, .aload_n 0, 1), (1, .iconst 0, 1), (2, .putfield 63, 3), (5, .aload_n 0, 1), (6, .getfield 25, 3), (9, .iconst 0, 1), (10, .invokestatic 123, 3), (13, .iconst 1, 1), (14, .ireturn, 1)]
theorem dk_X5_begin : dkL cX5_begin ii_X5_begin = true := by decide +kernel
abbrev ii_X5_moveOn : List (Nat × Instr × Nat) := [(0, .aload_n 0, 1), (1, .getfield 35, 3), (4, .getfield 83, 3), (7, .iconst 1, 1), (8, .isub, 1), (9, .istore_n 1, 1), (10, .iload_n 1, 1), (11, .ifCond .lt 72, 3), (14, .aload_n 0, 1), (15, .getfield 25, 3), (18, .iload_n 1, 1), (19, .iaload, 1), (20, .iconst 1, 1), (21, .iadd, 1), (22, .aload_n 0, 1), (23, .getfield 35, 3), (26, .getfield 128, 3), (29, .iload_n 1, 1), (30, .iaload, 1), (31, .if_icmp .ge 39, 3), (34, .aload_n 0, 1), (35, .getfield 25, 3), (38, .iload_n 1, 1), (39, .dup2, 1), (40, .iaload, 1), (41, .iconst 1, 1), (42, .iadd, 1), (43, .iastore, 1), (44, .aload_n 0, 1), (45, .dup, 1), (46, .getfield 63, 3), (49, .iconst 1, 1), (50, .iadd, 1), (51, .putfield 63, 3), (54, .aload_n 0, 1), (55, .getfield 63, 3), (58, .sipush 729, 3), (61, .if_icmp .ge 7, 3), (64, .iconst 1, 1), (65, .goto 4, 3), (68, .iconst 0, 1), (69, .ireturn, 1), (70, .aload_n 0, 1), (71, .getfield 25, 3), (74, .iload_n 1, 1), (75, .iconst 0, 1), (76, .iastore, 1), (77, .iinc 1 (-1), 3), (80, .goto (-70), 3), (83, .iconst 0, 1), (84, .ireturn, 1)]
theorem dk_X5_moveOn : dkL cX5_moveOn ii_X5_moveOn = true := by decide +kernel
abbrev ii_X5_isPermittedSet : List (Nat × Instr × Nat) := [(0, .iconst 0, 1), (1, .istore_n 1, 1), (2, .iload_n 1, 1), (3, .aload_n 0, 1), (4, .getfield 35, 3), (7, .getfield 83, 3), (10, .if_icmp .ge 28, 3), (13, .aload_n 0, 1), (14, .getfield 39, 3), (17, .iload_n 1, 1), (18, .aload_n 0, 1), (19, .getfield 25, 3), (22, .iload_n 1, 1), (23, .iaload, 1), (24, .invokevirtual 131, 3), (27, .ifCond .ne 5, 3), (30, .iconst 0, 1), (31, .ireturn, 1), (32, .iinc 1 1, 3), (35, .goto (-33), 3), (38, .iconst 1, 1), (39, .ireturn, 1)]
theorem dk_X5_isPermittedSet : dkL cX5_isPermittedSet ii_X5_isPermittedSet = true := by decide +kernel
abbrev ii_X5_holds : List (Nat × Instr × Nat) := [(0, .aload_n 0, 1), (1, .getfield 39, 3), (4, .getfield 100, 3), (7, .invokestatic 134, 3), (10, .lstore_n 3, 1), (11, .iconst 0, 1), (12, .istore 5, 2), (14, .iload 5, 2), (16, .aload_n 0, 1), (17, .getfield 35, 3), (20, .getfield 116, 3), (23, .if_icmp .ge 67, 3), (26, .iload 5, 2), (28, .iload_n 1, 1), (29, .if_icmp .ne 18, 3), (32, .aload_n 0, 1), (33, .getfield 39, 3), (36, .getfield 138, 3), (39, .iload 5, 2), (41, .iaload, 1), (42, .iload_n 2, 1), (43, .iadd, 1), (44, .goto 13, 3), (47, .aload_n 0, 1), (48, .getfield 39, 3), (51, .getfield 138, 3), (54, .iload 5, 2), (56, .iaload, 1), (57, .istore 6, 2), (59, .aload_n 0, 1), (60, .getfield 15, 3), (63, .aload_n 0, 1), (64, .getfield 63, 3), (67, .iconst 3, 1), (68, .imul, 1), (69, .iload 5, 2), (71, .iadd, 1), (72, .laload, 1), (73, .iload 6, 2), (75, .i2l, 1), (76, .lload_n 3, 1), (77, .lmul, 1), (78, .lcmp, 1), (79, .ifCond .le 5, 3), (82, .iconst 0, 1), (83, .ireturn, 1), (84, .iinc 5 1, 3), (87, .goto (-73), 3), (90, .iconst 1, 1), (91, .ireturn, 1)]
theorem dk_X5_holds : dkL cX5_holds ii_X5_holds = true := by decide +kernel
abbrev ii_X6_init : List (Nat × Instr × Nat) := [(0, .aload_n 0, 1), (1, .invokespecial 3, 3), (4, .aload_n 0, 1), (5, .bipush 114, 2), (7, .newarray .byte, 2), (9, .putfield 11, 3), (12, .return_, 1)]
theorem dk_X6_init : dkL cX6_init ii_X6_init = true := by decide +kernel
abbrev ii_X7_init : List (Nat × Instr × Nat) := [(0, .aload_n 0, 1), (1, .invokespecial 3, 3), (4, .aload_n 0, 1), (5, .bipush 18, 2), (7, .newarray .int, 2), (9, .putfield 9, 3), (12, .aload_n 0, 1), (13, .bipush 6, 2), (15, .newarray .int, 2), (17, .putfield 15, 3), (20, .aload_n 0, 1), (21, .iconst 3, 1), (22, .newarray .int, 2), (24, .putfield 18, 3), (27, .aload_n 0, 1), (28, .iconst (-1), 1), (29, .putfield 21, 3), (32, .aload_n 0, 1), (33, .bipush 6, 2), (35, .newarray .int, 2), (37, .putfield 25, 3), (40, .aload_n 0, 1), (41, .iconst 5, 1), (42, .newarray .int, 2), (44, .putfield 28, 3), (47, .return_, 1)]
theorem dk_X7_init : dkL cX7_init ii_X7_init = true := by decide +kernel
abbrev ii_X7_clear : List (Nat × Instr × Nat) := [(0, .iconst 0, 1), (1, .istore_n 1, 1), (2, .iload_n 1, 1), (3, .bipush 6, 2), (5, .if_icmp .ge 29, 3), (8, .aload_n 0, 1), (9, .getfield 9, 3), (12, .iload_n 1, 1), (13, .bipush 10, 2), (15, .iconst 0, 1), (16, .iconst 0, 1), (17, .invokestatic 31, 3), (20, .aload_n 0, 1), (21, .getfield 15, 3), (24, .iload_n 1, 1), (25, .bipush 7, 2), (27, .iastore, 1), (28, .iinc 1 1, 3), (31, .goto (-29), 3), (34, .aload_n 0, 1), (35, .getfield 18, 3), (38, .iconst 0, 1), (39, .invokestatic 35, 3), (42, .aload_n 0, 1), (43, .iconst 0, 1), (44, .putfield 41, 3), (47, .aload_n 0, 1), (48, .iconst 0, 1), (49, .putfield 44, 3), (52, .aload_n 0, 1), (53, .iconst 0, 1), (54, .putfield 47, 3), (57, .aload_n 0, 1), (58, .iconst (-1), 1), (59, .putfield 21, 3), (62, .return_, 1)]
theorem dk_X7_clear : dkL cX7_clear ii_X7_clear = true := by decide +kernel
abbrev ii_X7_copyFrom : List (Nat × Instr × Nat) := [(0, .aload_n 1, 1), (1, .getfield 9, 3), (4, .aload_n 0, 1), (5, .getfield 9, 3), (8, .invokestatic 50, 3), (11, .aload_n 1, 1), (12, .getfield 15, 3), (15, .aload_n 0, 1), (16, .getfield 15, 3), (19, .invokestatic 50, 3), (22, .aload_n 1, 1), (23, .getfield 18, 3), (26, .aload_n 0, 1), (27, .getfield 18, 3), (30, .invokestatic 50, 3), (33, .aload_n 0, 1), (34, .aload_n 1, 1), (35, .getfield 41, 3), (38, .putfield 41, 3), (41, .aload_n 0, 1), (42, .aload_n 1, 1), (43, .getfield 44, 3), (46, .putfield 44, 3), (49, .aload_n 0, 1), (50, .aload_n 1, 1), (51, .getfield 47, 3), (54, .putfield 47, 3), (57, .aload_n 0, 1), (58, .aload_n 1, 1), (59, .getfield 21, 3), (62, .putfield 21, 3), (65, .aload_n 1, 1), (66, .getfield 25, 3), (69, .aload_n 0, 1), (70, .getfield 25, 3), (73, .invokestatic 50, 3), (76, .aload_n 1, 1), (77, .getfield 28, 3), (80, .aload_n 0, 1), (81, .getfield 28, 3), (84, .invokestatic 50, 3), (87, .return_, 1)]
theorem dk_X7_copyFrom : dkL cX7_copyFrom ii_X7_copyFrom = true := by decide +kernel
abbrev ii_X7_permits : List (Nat × Instr × Nat) := [(0, .aload_n 0, 1), (1, .getfield 15, 3), (4, .iload_n 1, 1), (5, .iaload, 1), (6, .iload_n 2, 1), (7, .ishr, 1), (8, .iconst 1, 1), (9, .iand, 1), (10, .iconst 1, 1), (11, .if_icmp .ne 7, 3), (14, .iconst 1, 1), (15, .goto 4, 3), (18, .iconst 0, 1), (19, .ireturn, 1)]
theorem dk_X7_permits : dkL cX7_permits ii_X7_permits = true := by decide +kernel
abbrev ii_X7_walkRow : List (Nat × Instr × Nat) := [(0, .aload_n 0, 1), (1, .getfield 25, 3), (4, .iload_n 1, 1), (5, .iaload, 1), (6, .aload_n 0, 1), (7, .getfield 28, 3), (10, .iload_n 1, 1), (11, .iaload, 1), (12, .invokestatic 54, 3), (15, .ireturn, 1)]
theorem dk_X7_walkRow : dkL cX7_walkRow ii_X7_walkRow = true := by decide +kernel
abbrev ii_X8_init : List (Nat × Instr × Nat) := [(0, .aload_n 0, 1), (1, .invokespecial 3, 3), (4, .aload_n 0, 1), (5, .sipush 2976, 3), (8, .newarray .long, 2), (10, .putfield 11, 3), (13, .aload_n 0, 1), (14, .sipush 2976, 3), (17, .newarray .long, 2), (19, .putfield 15, 3), (22, .aload_n 0, 1), (23, .bipush 36, 2), (25, .newarray .int, 2), (27, .putfield 18, 3), (30, .aload_n 0, 1), (31, .aload_n 1, 1), (32, .putfield 22, 3), (35, .return_, 1)]
theorem dk_X8_init : dkL cX8_init ii_X8_init = true := by decide +kernel
abbrev ii_X9_init : List (Nat × Instr × Nat) := [(0, .aload_n 0, 1), (1, .invokespecial 3, 3), (4, .aload_n 0, 1), (5, .bipush 36, 2), (7, .newarray .long, 2), (9, .putfield 9, 3), (12, .aload_n 0, 1), (13, .aload_n 1, 1), (14, .putfield 15, 3), (17, .aload_n 0, 1), (18, .aload_n 2, 1), (19, .putfield 19, 3), (22, .return_, 1)]
theorem dk_X9_init : dkL cX9_init ii_X9_init = true := by decide +kernel
abbrev ii_X9_fill : List (Nat × Instr × Nat) := [(0, .aload_n 0, 1), (1, .getfield 9, 3), (4, .lconst 0, 1), (5, .invokestatic 23, 3), (8, .iconst 1, 1), (9, .istore_n 1, 1), (10, .iload_n 1, 1), (11, .iconst 5, 1), (12, .if_icmp .gt 56, 3), (15, .iconst 0, 1), (16, .istore_n 2, 1), (17, .iload_n 2, 1), (18, .aload_n 0, 1), (19, .getfield 15, 3), (22, .getfield 29, 3), (25, .if_icmp .ge 37, 3), (28, .aload_n 0, 1), (29, .iload_n 2, 1), (30, .iload_n 1, 1), (31, .invokevirtual 35, 3), (34, .istore_n 3, 1), (35, .aload_n 0, 1), (36, .getfield 9, 3), (39, .iload_n 1, 1), (40, .bipush 6, 2), (42, .imul, 1), (43, .iload_n 2, 1), (44, .iadd, 1), (45, .aload_n 0, 1), (46, .iload_n 2, 1), (47, .iload_n 3, 1), (48, .invokestatic 39, 3), (51, .iload_n 1, 1), (52, .invokevirtual 42, 3), (55, .lastore, 1), (56, .iinc 2 1, 3), (59, .goto (-42), 3), (62, .iinc 1 1, 3), (65, .goto (-55), 3), (68, .return_, 1)]
theorem dk_X9_fill : dkL cX9_fill ii_X9_fill = true := by decide +kernel
abbrev ii_X9_of : List (Nat × Instr × Nat) := [(0, .aload_n 0, 1), (1, .getfield 9, 3), (4, .iload_n 2, 1), (5, .bipush 6, 2), (7, .imul, 1), (8, .iload_n 1, 1), (9, .iadd, 1), (10, .laload, 1), (11, .lreturn, 1)]
theorem dk_X9_of : dkL cX9_of ii_X9_of = true := by decide +kernel
abbrev ii_X9_firstAction : List (Nat × Instr × Nat) := [(0, .iconst (-1), 1), (1, .istore_n 3, 1), (2, .ldc2_w 46, 3), (5, .lstore 4, 2), (7, .iconst 0, 1), (8, .istore 6, 2), (10, .iload 6, 2), (12, .aload_n 0, 1), (13, .getfield 15, 3), (16, .getfield 48, 3), (19, .iload_n 1, 1), (20, .iaload, 1), (21, .if_icmp .ge 55, 3), (24, .aload_n 0, 1), (25, .iload_n 1, 1), (26, .iload 6, 2), (28, .invokestatic 39, 3), (31, .iload_n 2, 1), (32, .invokevirtual 42, 3), (35, .lstore 7, 2), (37, .aload_n 0, 1), (38, .getfield 19, 3), (41, .iload_n 1, 1), (42, .iload 6, 2), (44, .invokevirtual 52, 3), (47, .ifCond .eq 23, 3), (50, .iload_n 3, 1), (51, .iconst (-1), 1), (52, .if_icmp .eq 11, 3), (55, .lload 7, 2), (57, .lload 4, 2), (59, .lcmp, 1), (60, .ifCond .le 10, 3), (63, .iload 6, 2), (65, .istore_n 3, 1), (66, .lload 7, 2), (68, .lstore 4, 2), (70, .iinc 6 1, 3), (73, .goto (-63), 3), (76, .iload_n 3, 1), (77, .iconst 0, 1), (78, .invokestatic 58, 3), (81, .ireturn, 1)]
theorem dk_X9_firstAction : dkL cX9_firstAction ii_X9_firstAction = true := by decide +kernel
abbrev ii_X9_valueOver : List (Nat × Instr × Nat) := [(0, .aload_n 0, 1), (1, .getfield 15, 3), (4, .getfield 63, 3), (7, .iload_n 1, 1), (8, .iaload, 1), (9, .i2l, 1), (10, .lstore_n 3, 1), (11, .iconst 1, 1), (12, .istore 5, 2), (14, .iload 5, 2), (16, .iload_n 2, 1), (17, .if_icmp .ge 15, 3), (20, .lload_n 3, 1), (21, .ldc2_w 66, 3), (24, .lmul, 1), (25, .lstore_n 3, 1), (26, .iinc 5 1, 3), (29, .goto (-15), 3), (32, .iconst 0, 1), (33, .istore 5, 2), (35, .iload 5, 2), (37, .aload_n 0, 1), (38, .getfield 15, 3), (41, .getfield 29, 3), (44, .if_icmp .ge 33, 3), (47, .lload_n 3, 1), (48, .aload_n 0, 1), (49, .getfield 15, 3), (52, .iload_n 1, 1), (53, .iload 5, 2), (55, .invokevirtual 68, 3), (58, .i2l, 1), (59, .aload_n 0, 1), (60, .iload 5, 2), (62, .iload_n 2, 1), (63, .iconst 1, 1), (64, .isub, 1), (65, .invokevirtual 71, 3), (68, .lmul, 1), (69, .ladd, 1), (70, .lstore_n 3, 1), (71, .iinc 5 1, 3), (74, .goto (-39), 3), (77, .lload_n 3, 1), (78, .lreturn, 1)]
theorem dk_X9_valueOver : dkL cX9_valueOver ii_X9_valueOver = true := by decide +kernel
abbrev ii_X10_init : List (Nat × Instr × Nat) := [(0, .aload_n 0, 1), (1, .invokespecial 3, 3), (4, .aload_n 0, 1), (5, .aload_n 1, 1), (6, .putfield 9, 3), (9, .return_, 1)]
theorem dk_X10_init : dkL cX10_init ii_X10_init = true := by decide +kernel
abbrev ii_X10_step : List (Nat × Instr × Nat) := [(0, .aload_n 0, 1), (1, .aload_n 0, 1), (2, .aload_n 1, 1), (3, .aload_n 0, 1), (4, .invokevirtual 15, 3), (7, .bipush 10, 2), (9, .irem, 1), (10, .invokevirtual 19, 3), (13, .putfield 23, 3), (16, .aload_n 0, 1), (17, .aload_n 0, 1), (18, .aload_n 0, 1), (19, .getfield 27, 3), (22, .aload_n 0, 1), (23, .getfield 23, 3), (26, .invokestatic 30, 3), (29, .aload_n 0, 1), (30, .invokevirtual 15, 3), (33, .bipush 100, 2), (35, .irem, 1), (36, .invokevirtual 34, 3), (39, .putfield 27, 3), (42, .return_, 1)]
theorem dk_X10_step : dkL cX10_step ii_X10_step = true := by decide +kernel
abbrev ii_X10_gainOfNext : List (Nat × Instr × Nat) := [(0, .aload_n 0, 1), (1, .aload_n 1, 1), (2, .getfield 37, 3), (5, .putfield 27, 3), (8, .iconst 0, 1), (9, .istore_n 2, 1), (10, .iconst 0, 1), (11, .istore_n 3, 1), (12, .iload_n 3, 1), (13, .aload_n 1, 1), (14, .getfield 42, 3), (17, .if_icmp .ge 43, 3), (20, .aload_n 0, 1), (21, .getfield 27, 3), (24, .istore 4, 2), (26, .aload_n 0, 1), (27, .aload_n 1, 1), (28, .getfield 45, 3), (31, .invokevirtual 49, 3), (34, .iload_n 2, 1), (35, .aload_n 0, 1), (36, .getfield 9, 3), (39, .getfield 53, 3), (42, .iload 4, 2), (44, .aload_n 0, 1), (45, .getfield 23, 3), (48, .invokestatic 30, 3), (51, .iaload, 1), (52, .iadd, 1), (53, .istore_n 2, 1), (54, .iinc 3 1, 3), (57, .goto (-45), 3), (60, .iload_n 2, 1), (61, .ireturn, 1)]
theorem dk_X10_gainOfNext : dkL cX10_gainOfNext ii_X10_gainOfNext = true := by decide +kernel
abbrev ii_X10_draw : List (Nat × Instr × Nat) := [(0, .aload_n 0, 1), (1, .aload_n 0, 1), (2, .getfield 58, 3), (5, .bipush 109, 2), (7, .imul, 1), (8, .sipush 1021, 3), (11, .iadd, 1), (12, .sipush 30011, 3), (15, .irem, 1), (16, .putfield 58, 3), (19, .aload_n 0, 1), (20, .getfield 58, 3), (23, .ireturn, 1)]
theorem dk_X10_draw : dkL cX10_draw ii_X10_draw = true := by decide +kernel
abbrev ii_X10_drawAction : List (Nat × Instr × Nat) := [(0, .iconst 0, 1), (1, .istore_n 3, 1), (2, .iconst 0, 1), (3, .istore 4, 2), (5, .iload 4, 2), (7, .aload_n 0, 1), (8, .getfield 9, 3), (11, .getfield 61, 3), (14, .aload_n 0, 1), (15, .getfield 27, 3), (18, .iaload, 1), (19, .if_icmp .ge 31, 3), (22, .iload_n 3, 1), (23, .aload_n 1, 1), (24, .aload_n 0, 1), (25, .getfield 27, 3), (28, .iload 4, 2), (30, .invokestatic 30, 3), (33, .iaload, 1), (34, .iadd, 1), (35, .istore_n 3, 1), (36, .iload_n 3, 1), (37, .iload_n 2, 1), (38, .if_icmp .le 6, 3), (41, .iload 4, 2), (43, .ireturn, 1), (44, .iinc 4 1, 3), (47, .goto (-42), 3), (50, .iconst 0, 1), (51, .ireturn, 1)]
theorem dk_X10_drawAction : dkL cX10_drawAction ii_X10_drawAction = true := by decide +kernel
abbrev ii_X10_drawNext : List (Nat × Instr × Nat) := [(0, .iconst 0, 1), (1, .istore_n 3, 1), (2, .iconst 0, 1), (3, .istore 4, 2), (5, .iload 4, 2), (7, .aload_n 0, 1), (8, .getfield 9, 3), (11, .getfield 64, 3), (14, .iload_n 1, 1), (15, .iaload, 1), (16, .if_icmp .ge 47, 3), (19, .aload_n 0, 1), (20, .getfield 9, 3), (23, .getfield 67, 3), (26, .iload_n 1, 1), (27, .bipush 6, 2), (29, .imul, 1), (30, .iload 4, 2), (32, .iadd, 1), (33, .iaload, 1), (34, .istore 5, 2), (36, .iload_n 3, 1), (37, .aload_n 0, 1), (38, .getfield 9, 3), (41, .iload_n 1, 1), (42, .iload 5, 2), (44, .invokevirtual 70, 3), (47, .iadd, 1), (48, .istore_n 3, 1), (49, .iload_n 3, 1), (50, .iload_n 2, 1), (51, .if_icmp .le 6, 3), (54, .iload 5, 2), (56, .ireturn, 1), (57, .iinc 4 1, 3), (60, .goto (-55), 3), (63, .aload_n 0, 1), (64, .getfield 27, 3), (67, .ireturn, 1)]
theorem dk_X10_drawNext : dkL cX10_drawNext ii_X10_drawNext = true := by decide +kernel
abbrev ii_X11_init : List (Nat × Instr × Nat) := [(0, .aload_n 0, 1), (1, .invokespecial 5, 3), (4, .new 11, 3), (7, .dup, 1), (8, .invokespecial 13, 3), (11, .astore_n 1, 1), (12, .new 14, 3), (15, .dup, 1), (16, .invokespecial 16, 3), (19, .astore_n 2, 1), (20, .new 17, 3), (23, .dup, 1), (24, .invokespecial 19, 3), (27, .astore_n 3, 1), (28, .new 20, 3), (31, .dup, 1), (32, .aload_n 2, 1), (33, .invokespecial 22, 3), (36, .astore 4, 2), (38, .aload_n 0, 1), (39, .aload_n 1, 1), (40, .putfield 25, 3), (43, .aload_n 0, 1), (44, .new 29, 3), (47, .dup, 1), (48, .aload_n 1, 1), (49, .invokespecial 31, 3), (52, .putfield 34, 3), (55, .aload_n 0, 1), (56, .aload_n 2, 1), (57, .putfield 38, 3), (60, .aload_n 0, 1), (61, .aload_n 3, 1), (62, .putfield 42, 3), (65, .aload_n 0, 1), (66, .new 46, 3), (69, .dup, 1), (70, .invokespecial 48, 3), (73, .putfield 49, 3), (76, .aload_n 0, 1), (77, .aload 4, 2), (79, .putfield 53, 3), (82, .aload_n 0, 1), (83, .new 57, 3), (86, .dup, 1), (87, .aload_n 2, 1), (88, .invokespecial 59, 3), (91, .putfield 60, 3), (94, .aload_n 0, 1), (95, .new 64, 3), (98, .dup, 1), (99, .aload_n 2, 1), (100, .aload_n 3, 1), (101, .aload 4, 2), (103, .invokespecial 66, 3), (106, .putfield 69, 3), (109, .aload_n 0, 1), (110, .new 73, 3), (113, .dup, 1), (114, .aload_n 2, 1), (115, .aload_n 3, 1), (116, .invokespecial 75, 3), (119, .putfield 78, 3), (122, .aload_n 0, 1), (123, .new 82, 3), (126, .dup, 1), (127, .aload_n 2, 1), (128, .invokespecial 84, 3), (131, .putfield 85, 3), (134, .aload_n 0, 1), (135, .new 89, 3), (138, .dup, 1), (139, .invokespecial 91, 3), (142, .putfield 92, 3), (145, .aload_n 0, 1), (146, .bipush 18, 2), (148, .newarray .int, 2), (150, .putfield 96, 3), (153, .return_, 1)]
theorem dk_X11_init : dkL cX11_init ii_X11_init = true := by decide +kernel
abbrev ii_X11_append : List (Nat × Instr × Nat) := [(0, .aload_n 0, 1), (1, .getfield 25, 3), (4, .bipush 20, 2), (6, .invokevirtual 100, 3), (9, .ifCond .ne 5, 3), (12, .iconst (-1), 1), (13, .ireturn, 1), (14, .aload_n 0, 1), (15, .getfield 25, 3), (18, .iload_n 1, 1), (19, .invokevirtual 104, 3), (22, .aload_n 0, 1), (23, .getfield 25, 3), (26, .iload_n 2, 1), (27, .invokevirtual 104, 3), (30, .aload_n 0, 1), (31, .getfield 25, 3), (34, .iload_n 3, 1), (35, .invokevirtual 104, 3), (38, .aload_n 0, 1), (39, .getfield 25, 3), (42, .iload 4, 2), (44, .invokevirtual 104, 3), (47, .aload_n 0, 1), (48, .getfield 25, 3), (51, .iload 5, 2), (53, .invokevirtual 104, 3), (56, .aload_n 0, 1), (57, .getfield 25, 3), (60, .getfield 108, 3), (63, .ireturn, 1)]
theorem dk_X11_append : dkL cX11_append ii_X11_append = true := by decide +kernel
abbrev ii_X11_load : List (Nat × Instr × Nat) := [(0, .iload_n 1, 1), (1, .ifCond .lt 14, 3), (4, .iload_n 1, 1), (5, .aload_n 0, 1), (6, .getfield 25, 3), (9, .getfield 108, 3), (12, .if_icmp .le 13, 3), (15, .new 112, 3), (18, .dup, 1), (19, .ldc 114, 2), (21, .invokespecial 116, 3), (24, .athrow, 1), (25, .aload_n 0, 1), (26, .getfield 34, 3), (29, .iload_n 1, 1), (30, .invokevirtual 119, 3), (33, .istore_n 2, 1), (34, .aload_n 0, 1), (35, .getfield 25, 3), (38, .iconst 0, 1), (39, .putfield 108, 3), (42, .iload_n 2, 1), (43, .ifCond .ne 13, 3), (46, .new 122, 3), (49, .dup, 1), (50, .ldc 124, 2), (52, .invokespecial 126, 3), (55, .athrow, 1), (56, .aload_n 0, 1), (57, .getfield 38, 3), (60, .aload_n 0, 1), (61, .getfield 34, 3), (64, .getfield 127, 3), (67, .invokevirtual 128, 3), (70, .aload_n 0, 1), (71, .getfield 42, 3), (74, .aload_n 0, 1), (75, .getfield 34, 3), (78, .getfield 131, 3), (81, .invokevirtual 134, 3), (84, .aload_n 0, 1), (85, .getfield 49, 3), (88, .invokevirtual 137, 3), (91, .aload_n 0, 1), (92, .getfield 69, 3), (95, .invokevirtual 140, 3), (98, .aload_n 0, 1), (99, .getfield 38, 3), (102, .invokevirtual 141, 3), (105, .ireturn, 1)]
theorem dk_X11_load : dkL cX11_load ii_X11_load = true := by decide +kernel
abbrev ii_X11_parseError : List (Nat × Instr × Nat) := [(0, .aload_n 0, 1), (1, .getfield 34, 3), (4, .getfield 145, 3), (7, .ireturn, 1)]
theorem dk_X11_parseError : dkL cX11_parseError ii_X11_parseError = true := by decide +kernel
abbrev ii_X11_errorPosition : List (Nat × Instr × Nat) := [(0, .aload_n 0, 1), (1, .getfield 34, 3), (4, .getfield 148, 3), (7, .ireturn, 1)]
theorem dk_X11_errorPosition : dkL cX11_errorPosition ii_X11_errorPosition = true := by decide +kernel
abbrev ii_X11_states : List (Nat × Instr × Nat) := [(0, .aload_n 0, 1), (1, .getfield 38, 3), (4, .getfield 151, 3), (7, .ireturn, 1)]
theorem dk_X11_states : dkL cX11_states ii_X11_states = true := by decide +kernel
abbrev ii_X11_budgets : List (Nat × Instr × Nat) := [(0, .aload_n 0, 1), (1, .getfield 38, 3), (4, .getfield 154, 3), (7, .ireturn, 1)]
theorem dk_X11_budgets : dkL cX11_budgets ii_X11_budgets = true := by decide +kernel
abbrev ii_X11_horizon : List (Nat × Instr × Nat) := [(0, .aload_n 0, 1), (1, .getfield 42, 3), (4, .getfield 157, 3), (7, .ireturn, 1)]
theorem dk_X11_horizon : dkL cX11_horizon ii_X11_horizon = true := by decide +kernel
abbrev ii_X11_start : List (Nat × Instr × Nat) := [(0, .aload_n 0, 1), (1, .invokevirtual 160, 3), (4, .aload_n 0, 1), (5, .getfield 42, 3), (8, .getfield 163, 3), (11, .ireturn, 1)]
theorem dk_X11_start : dkL cX11_start ii_X11_start = true := by decide +kernel
abbrev ii_X11_actions : List (Nat × Instr × Nat) := [(0, .aload_n 0, 1), (1, .iload_n 1, 1), (2, .invokevirtual 166, 3), (5, .aload_n 0, 1), (6, .getfield 38, 3), (9, .getfield 169, 3), (12, .iload_n 1, 1), (13, .iaload, 1), (14, .ireturn, 1)]
theorem dk_X11_actions : dkL cX11_actions ii_X11_actions = true := by decide +kernel
abbrev ii_X11_gain : List (Nat × Instr × Nat) := [(0, .aload_n 0, 1), (1, .iload_n 1, 1), (2, .iload_n 2, 1), (3, .invokevirtual 172, 3), (6, .aload_n 0, 1), (7, .getfield 38, 3), (10, .getfield 176, 3), (13, .iload_n 1, 1), (14, .iload_n 2, 1), (15, .invokestatic 179, 3), (18, .iaload, 1), (19, .ireturn, 1)]
theorem dk_X11_gain : dkL cX11_gain ii_X11_gain = true := by decide +kernel
abbrev ii_X11_uses : List (Nat × Instr × Nat) := [(0, .aload_n 0, 1), (1, .iload_n 1, 1), (2, .iload_n 2, 1), (3, .invokevirtual 172, 3), (6, .aload_n 0, 1), (7, .iload_n 3, 1), (8, .invokevirtual 183, 3), (11, .aload_n 0, 1), (12, .getfield 38, 3), (15, .iload_n 1, 1), (16, .iload_n 2, 1), (17, .invokestatic 179, 3), (20, .iload_n 3, 1), (21, .invokevirtual 186, 3), (24, .ireturn, 1)]
theorem dk_X11_uses : dkL cX11_uses ii_X11_uses = true := by decide +kernel
abbrev ii_X11_percent : List (Nat × Instr × Nat) := [(0, .aload_n 0, 1), (1, .iload_n 1, 1), (2, .iload_n 2, 1), (3, .invokevirtual 172, 3), (6, .aload_n 0, 1), (7, .iload_n 3, 1), (8, .invokevirtual 166, 3), (11, .aload_n 0, 1), (12, .getfield 38, 3), (15, .iload_n 1, 1), (16, .iload_n 2, 1), (17, .invokestatic 179, 3), (20, .iload_n 3, 1), (21, .invokevirtual 189, 3), (24, .ireturn, 1)]
theorem dk_X11_percent : dkL cX11_percent ii_X11_percent = true := by decide +kernel
abbrev ii_X11_weight : List (Nat × Instr × Nat) := [(0, .aload_n 0, 1), (1, .iload_n 1, 1), (2, .iload_n 2, 1), (3, .invokevirtual 172, 3), (6, .aload_n 0, 1), (7, .getfield 42, 3), (10, .getfield 192, 3), (13, .iload_n 1, 1), (14, .iload_n 2, 1), (15, .invokestatic 179, 3), (18, .iaload, 1), (19, .ireturn, 1)]
theorem dk_X11_weight : dkL cX11_weight ii_X11_weight = true := by decide +kernel
abbrev ii_X11_isPermitted : List (Nat × Instr × Nat) := [(0, .aload_n 0, 1), (1, .iload_n 1, 1), (2, .iload_n 2, 1), (3, .invokevirtual 172, 3), (6, .aload_n 0, 1), (7, .getfield 42, 3), (10, .iload_n 1, 1), (11, .iload_n 2, 1), (12, .invokevirtual 195, 3), (15, .ireturn, 1)]
theorem dk_X11_isPermitted : dkL cX11_isPermitted ii_X11_isPermitted = true := by decide +kernel
abbrev ii_X11_limit : List (Nat × Instr × Nat) := [(0, .aload_n 0, 1), (1, .iload_n 1, 1), (2, .invokevirtual 183, 3), (5, .aload_n 0, 1), (6, .getfield 42, 3), (9, .getfield 199, 3), (12, .iload_n 1, 1), (13, .iaload, 1), (14, .ireturn, 1)]
theorem dk_X11_limit : dkL cX11_limit ii_X11_limit = true := by decide +kernel
abbrev ii_X11_reach : List (Nat × Instr × Nat) := [(0, .aload_n 0, 1), (1, .iload_n 1, 1), (2, .invokevirtual 202, 3), (5, .aload_n 0, 1), (6, .invokevirtual 205, 3), (9, .iconst 0, 1), (10, .istore_n 2, 1), (11, .iconst 0, 1), (12, .istore_n 3, 1), (13, .iload_n 3, 1), (14, .aload_n 0, 1), (15, .getfield 38, 3), (18, .getfield 151, 3), (21, .if_icmp .ge 29, 3), (24, .aload_n 0, 1), (25, .getfield 53, 3), (28, .iload_n 3, 1), (29, .iload_n 1, 1), (30, .invokevirtual 208, 3), (33, .lconst 0, 1), (34, .lcmp, 1), (35, .ifCond .le 9, 3), (38, .iload_n 2, 1), (39, .iconst 1, 1), (40, .iload_n 3, 1), (41, .ishl, 1), (42, .ior, 1), (43, .istore_n 2, 1), (44, .iinc 3 1, 3), (47, .goto (-34), 3), (50, .iload_n 2, 1), (51, .ireturn, 1)]
theorem dk_X11_reach : dkL cX11_reach ii_X11_reach = true := by decide +kernel
abbrev ii_X11_isClosed : List (Nat × Instr × Nat) := [(0, .aload_n 0, 1), (1, .invokevirtual 160, 3), (4, .iload_n 1, 1), (5, .iconst 1, 1), (6, .iconst 1, 1), (7, .aload_n 0, 1), (8, .getfield 38, 3), (11, .getfield 151, 3), (14, .ishl, 1), (15, .iconst 1, 1), (16, .isub, 1), (17, .invokestatic 212, 3), (20, .aload_n 0, 1), (21, .invokevirtual 205, 3), (24, .iconst 0, 1), (25, .istore_n 2, 1), (26, .iload_n 2, 1), (27, .aload_n 0, 1), (28, .getfield 38, 3), (31, .getfield 151, 3), (34, .if_icmp .ge 35, 3), (37, .iload_n 1, 1), (38, .iload_n 2, 1), (39, .ishr, 1), (40, .iconst 1, 1), (41, .iand, 1), (42, .iconst 1, 1), (43, .if_icmp .ne 20, 3), (46, .aload_n 0, 1), (47, .getfield 53, 3), (50, .iload_n 2, 1), (51, .invokevirtual 216, 3), (54, .iload_n 1, 1), (55, .iconst (-1), 1), (56, .ixor, 1), (57, .iand, 1), (58, .ifCond .eq 5, 3), (61, .iconst 0, 1), (62, .ireturn, 1), (63, .iinc 2 1, 3), (66, .goto (-40), 3), (69, .iconst 1, 1), (70, .ireturn, 1)]
theorem dk_X11_isClosed : dkL cX11_isClosed ii_X11_isClosed = true := by decide +kernel
abbrev ii_X11_flow : List (Nat × Instr × Nat) := [(0, .aload_n 0, 1), (1, .iload_n 1, 1), (2, .invokevirtual 166, 3), (5, .aload_n 0, 1), (6, .iload_n 2, 1), (7, .invokevirtual 202, 3), (10, .aload_n 0, 1), (11, .invokevirtual 205, 3), (14, .aload_n 0, 1), (15, .getfield 53, 3), (18, .iload_n 1, 1), (19, .iload_n 2, 1), (20, .invokevirtual 208, 3), (23, .lreturn, 1)]
theorem dk_X11_flow : dkL cX11_flow ii_X11_flow = true := by decide +kernel
abbrev ii_X11_use : List (Nat × Instr × Nat) := [(0, .aload_n 0, 1), (1, .iload_n 1, 1), (2, .iload_n 2, 1), (3, .invokevirtual 172, 3), (6, .iload_n 3, 1), (7, .iconst 0, 1), (8, .aload_n 0, 1), (9, .getfield 42, 3), (12, .getfield 157, 3), (15, .iconst 1, 1), (16, .isub, 1), (17, .invokestatic 212, 3), (20, .aload_n 0, 1), (21, .invokevirtual 205, 3), (24, .aload_n 0, 1), (25, .getfield 53, 3), (28, .iload_n 1, 1), (29, .iload_n 3, 1), (30, .invokevirtual 208, 3), (33, .aload_n 0, 1), (34, .getfield 42, 3), (37, .getfield 192, 3), (40, .iload_n 1, 1), (41, .iload_n 2, 1), (42, .invokestatic 179, 3), (45, .iaload, 1), (46, .i2l, 1), (47, .lmul, 1), (48, .lreturn, 1)]
theorem dk_X11_use : dkL cX11_use ii_X11_use = true := by decide +kernel
abbrev ii_X11_visits : List (Nat × Instr × Nat) := [(0, .aload_n 0, 1), (1, .iload_n 1, 1), (2, .invokevirtual 166, 3), (5, .aload_n 0, 1), (6, .invokevirtual 205, 3), (9, .aload_n 0, 1), (10, .getfield 53, 3), (13, .iload_n 1, 1), (14, .invokevirtual 220, 3), (17, .lreturn, 1)]
theorem dk_X11_visits : dkL cX11_visits ii_X11_visits = true := by decide +kernel
abbrev ii_X11_hit : List (Nat × Instr × Nat) := [(0, .aload_n 0, 1), (1, .iload_n 1, 1), (2, .invokevirtual 166, 3), (5, .aload_n 0, 1), (6, .invokevirtual 205, 3), (9, .aload_n 0, 1), (10, .getfield 53, 3), (13, .iload_n 1, 1), (14, .invokevirtual 224, 3), (17, .lreturn, 1)]
theorem dk_X11_hit : dkL cX11_hit ii_X11_hit = true := by decide +kernel
abbrev ii_X11_unit : List (Nat × Instr × Nat) := [(0, .aload_n 0, 1), (1, .invokevirtual 160, 3), (4, .aload_n 0, 1), (5, .getfield 42, 3), (8, .getfield 157, 3), (11, .invokestatic 227, 3), (14, .lreturn, 1)]
theorem dk_X11_unit : dkL cX11_unit ii_X11_unit = true := by decide +kernel
abbrev ii_X11_gainOfRun : List (Nat × Instr × Nat) := [(0, .aload_n 0, 1), (1, .invokevirtual 160, 3), (4, .aload_n 0, 1), (5, .invokevirtual 205, 3), (8, .aload_n 0, 1), (9, .getfield 53, 3), (12, .aload_n 0, 1), (13, .getfield 42, 3), (16, .getfield 192, 3), (19, .invokevirtual 230, 3), (22, .lreturn, 1)]
theorem dk_X11_gainOfRun : dkL cX11_gainOfRun ii_X11_gainOfRun = true := by decide +kernel
abbrev ii_X11_usedOfRun : List (Nat × Instr × Nat) := [(0, .aload_n 0, 1), (1, .iload_n 1, 1), (2, .invokevirtual 183, 3), (5, .aload_n 0, 1), (6, .invokevirtual 205, 3), (9, .aload_n 0, 1), (10, .getfield 53, 3), (13, .aload_n 0, 1), (14, .getfield 42, 3), (17, .getfield 192, 3), (20, .iload_n 1, 1), (21, .invokevirtual 234, 3), (24, .lreturn, 1)]
theorem dk_X11_usedOfRun : dkL cX11_usedOfRun ii_X11_usedOfRun = true := by decide +kernel
abbrev ii_X11_left : List (Nat × Instr × Nat) := [(0, .aload_n 0, 1), (1, .iload_n 1, 1), (2, .invokevirtual 183, 3), (5, .aload_n 0, 1), (6, .invokevirtual 205, 3), (9, .aload_n 0, 1), (10, .getfield 42, 3), (13, .getfield 199, 3), (16, .iload_n 1, 1), (17, .iaload, 1), (18, .i2l, 1), (19, .aload_n 0, 1), (20, .getfield 42, 3), (23, .getfield 157, 3), (26, .invokestatic 227, 3), (29, .lmul, 1), (30, .aload_n 0, 1), (31, .getfield 53, 3), (34, .aload_n 0, 1), (35, .getfield 42, 3), (38, .getfield 192, 3), (41, .iload_n 1, 1), (42, .invokevirtual 234, 3), (45, .lsub, 1), (46, .lreturn, 1)]
theorem dk_X11_left : dkL cX11_left ii_X11_left = true := by decide +kernel
abbrev ii_X11_broken : List (Nat × Instr × Nat) := [(0, .aload_n 0, 1), (1, .invokevirtual 160, 3), (4, .aload_n 0, 1), (5, .aload_n 0, 1), (6, .getfield 42, 3), (9, .getfield 192, 3), (12, .invokevirtual 238, 3), (15, .ireturn, 1)]
theorem dk_X11_broken : dkL cX11_broken ii_X11_broken = true := by decide +kernel
abbrev ii_X11_firstTime : List (Nat × Instr × Nat) := [(0, .aload_n 0, 1), (1, .iload_n 1, 1), (2, .invokevirtual 166, 3), (5, .aload_n 0, 1), (6, .invokevirtual 205, 3), (9, .iconst 0, 1), (10, .istore_n 2, 1), (11, .iload_n 2, 1), (12, .aload_n 0, 1), (13, .getfield 42, 3), (16, .getfield 157, 3), (19, .if_icmp .gt 25, 3), (22, .aload_n 0, 1), (23, .getfield 53, 3), (26, .iload_n 1, 1), (27, .iload_n 2, 1), (28, .invokevirtual 208, 3), (31, .lconst 0, 1), (32, .lcmp, 1), (33, .ifCond .le 5, 3), (36, .iload_n 2, 1), (37, .ireturn, 1), (38, .iinc 2 1, 3), (41, .goto (-30), 3), (44, .iconst (-1), 1), (45, .ireturn, 1)]
theorem dk_X11_firstTime : dkL cX11_firstTime ii_X11_firstTime = true := by decide +kernel
abbrev ii_X11_busiest : List (Nat × Instr × Nat) := [(0, .aload_n 0, 1), (1, .iload_n 1, 1), (2, .invokevirtual 166, 3), (5, .aload_n 0, 1), (6, .invokevirtual 205, 3), (9, .iconst 0, 1), (10, .istore_n 2, 1), (11, .iload_n 2, 1), (12, .aload_n 0, 1), (13, .getfield 38, 3), (16, .getfield 151, 3), (19, .if_icmp .ge 23, 3), (22, .aload_n 0, 1), (23, .getfield 53, 3), (26, .iload_n 2, 1), (27, .invokevirtual 250, 3), (30, .iload_n 1, 1), (31, .if_icmp .ne 5, 3), (34, .iload_n 2, 1), (35, .ireturn, 1), (36, .iinc 2 1, 3), (39, .goto (-28), 3), (42, .iconst (-1), 1), (43, .ireturn, 1)]
theorem dk_X11_busiest : dkL cX11_busiest ii_X11_busiest = true := by decide +kernel
abbrev ii_X11_meanGain : List (Nat × Instr × Nat) := [(0, .aload_n 0, 1), (1, .invokevirtual 160, 3), (4, .aload_n 0, 1), (5, .invokevirtual 205, 3), (8, .aload_n 0, 1), (9, .getfield 53, 3), (12, .aload_n 0, 1), (13, .getfield 42, 3), (16, .getfield 192, 3), (19, .invokevirtual 230, 3), (22, .l2f, 1), (23, .aload_n 0, 1), (24, .getfield 42, 3), (27, .getfield 157, 3), (30, .invokestatic 227, 3), (33, .l2f, 1), (34, .fdiv, 1), (35, .freturn, 1)]
theorem dk_X11_meanGain : dkL cX11_meanGain ii_X11_meanGain = true := by decide +kernel
abbrev ii_X11_likeliestAt : List (Nat × Instr × Nat) := [(0, .aload_n 0, 1), (1, .iload_n 1, 1), (2, .invokevirtual 202, 3), (5, .aload_n 0, 1), (6, .invokevirtual 205, 3), (9, .aload_n 0, 1), (10, .getfield 53, 3), (13, .iload_n 1, 1), (14, .invokevirtual 257, 3), (17, .ireturn, 1)]
theorem dk_X11_likeliestAt : dkL cX11_likeliestAt ii_X11_likeliestAt = true := by decide +kernel
abbrev ii_X11_value : List (Nat × Instr × Nat) := [(0, .aload_n 0, 1), (1, .iload_n 1, 1), (2, .invokevirtual 166, 3), (5, .iload_n 2, 1), (6, .iconst 0, 1), (7, .iconst 5, 1), (8, .invokestatic 212, 3), (11, .aload_n 0, 1), (12, .getfield 78, 3), (15, .invokevirtual 260, 3), (18, .aload_n 0, 1), (19, .getfield 78, 3), (22, .iload_n 1, 1), (23, .iload_n 2, 1), (24, .invokevirtual 263, 3), (27, .lreturn, 1)]
theorem dk_X11_value : dkL cX11_value ii_X11_value = true := by decide +kernel
abbrev ii_X11_valueAction : List (Nat × Instr × Nat) := [(0, .aload_n 0, 1), (1, .iload_n 1, 1), (2, .invokevirtual 166, 3), (5, .iload_n 2, 1), (6, .iconst 1, 1), (7, .iconst 5, 1), (8, .invokestatic 212, 3), (11, .aload_n 0, 1), (12, .getfield 78, 3), (15, .invokevirtual 260, 3), (18, .aload_n 0, 1), (19, .getfield 78, 3), (22, .iload_n 1, 1), (23, .iload_n 2, 1), (24, .invokevirtual 266, 3), (27, .ireturn, 1)]
theorem dk_X11_valueAction : dkL cX11_valueAction ii_X11_valueAction = true := by decide +kernel
abbrev ii_X11_worth : List (Nat × Instr × Nat) := [(0, .aload_n 0, 1), (1, .iload_n 1, 1), (2, .invokevirtual 183, 3), (5, .iload_n 2, 1), (6, .iconst 1, 1), (7, .sipush 9999, 3), (10, .invokestatic 212, 3), (13, .aload_n 0, 1), (14, .getfield 69, 3), (17, .iconst (-1), 1), (18, .iconst 0, 1), (19, .invokevirtual 269, 3), (22, .lstore_n 3, 1), (23, .lload_n 3, 1), (24, .ldc2_w 272, 3), (27, .lcmp, 1), (28, .ifCond .ne 9, 3), (31, .ldc2_w 272, 3), (34, .goto 14, 3), (37, .aload_n 0, 1), (38, .getfield 69, 3), (41, .iload_n 1, 1), (42, .iload_n 2, 1), (43, .invokevirtual 269, 3), (46, .lload_n 3, 1), (47, .lsub, 1), (48, .lreturn, 1)]
theorem dk_X11_worth : dkL cX11_worth ii_X11_worth = true := by decide +kernel
abbrev ii_X11_bestWeight : List (Nat × Instr × Nat) := [(0, .aload_n 0, 1), (1, .iload_n 1, 1), (2, .iload_n 2, 1), (3, .invokevirtual 172, 3), (6, .aload_n 0, 1), (7, .iload_n 1, 1), (8, .iload_n 3, 1), (9, .invokevirtual 172, 3), (12, .iload_n 2, 1), (13, .iload_n 3, 1), (14, .if_icmp .ne 14, 3), (17, .new 122, 3), (20, .dup, 1), (21, .ldc_w 283, 3), (24, .invokespecial 126, 3), (27, .athrow, 1), (28, .aload_n 0, 1), (29, .getfield 42, 3), (32, .getfield 192, 3), (35, .aload_n 0, 1), (36, .getfield 96, 3), (39, .invokestatic 285, 3), (42, .aload_n 0, 1), (43, .getfield 96, 3), (46, .iload_n 1, 1), (47, .iconst 0, 1), (48, .iconst 0, 1), (49, .iconst 0, 1), (50, .invokestatic 289, 3), (53, .iconst (-1), 1), (54, .istore 4, 2), (56, .ldc2_w 272, 3), (59, .lstore 5, 2), (61, .iconst 0, 1), (62, .istore 7, 2), (64, .iload 7, 2), (66, .bipush 10, 2), (68, .if_icmp .gt 81, 3), (71, .aload_n 0, 1), (72, .getfield 96, 3), (75, .iload_n 1, 1), (76, .iload_n 2, 1), (77, .invokestatic 179, 3), (80, .bipush 10, 2), (82, .iload 7, 2), (84, .isub, 1), (85, .iastore, 1), (86, .aload_n 0, 1), (87, .getfield 96, 3), (90, .iload_n 1, 1), (91, .iload_n 3, 1), (92, .invokestatic 179, 3), (95, .iload 7, 2), (97, .iastore, 1), (98, .aload_n 0, 1), (99, .aload_n 0, 1), (100, .getfield 96, 3), (103, .invokevirtual 238, 3), (106, .ifCond .ne 37, 3), (109, .aload_n 0, 1), (110, .getfield 53, 3), (113, .aload_n 0, 1), (114, .getfield 96, 3), (117, .invokevirtual 230, 3), (120, .lload 5, 2), (122, .lcmp, 1), (123, .ifCond .le 20, 3), (126, .iload 7, 2), (128, .istore 4, 2), (130, .aload_n 0, 1), (131, .getfield 53, 3), (134, .aload_n 0, 1), (135, .getfield 96, 3), (138, .invokevirtual 230, 3), (141, .lstore 5, 2), (143, .iinc 7 1, 3), (146, .goto (-82), 3), (149, .iload 4, 2), (151, .ireturn, 1)]
theorem dk_X11_bestWeight : dkL cX11_bestWeight ii_X11_bestWeight = true := by decide +kernel
abbrev ii_X11_seed : List (Nat × Instr × Nat) := [(0, .aload_n 0, 1), (1, .invokevirtual 160, 3), (4, .aload_n 0, 1), (5, .getfield 42, 3), (8, .getfield 293, 3), (11, .ireturn, 1)]
theorem dk_X11_seed : dkL cX11_seed ii_X11_seed = true := by decide +kernel
abbrev ii_X11_walked : List (Nat × Instr × Nat) := [(0, .aload_n 0, 1), (1, .invokevirtual 296, 3), (4, .iload_n 1, 1), (5, .iconst 0, 1), (6, .aload_n 0, 1), (7, .getfield 42, 3), (10, .getfield 299, 3), (13, .invokestatic 212, 3), (16, .aload_n 0, 1), (17, .getfield 42, 3), (20, .getfield 302, 3), (23, .iload_n 1, 1), (24, .iaload, 1), (25, .ireturn, 1)]
theorem dk_X11_walked : dkL cX11_walked ii_X11_walked = true := by decide +kernel
abbrev ii_X11_walkedBy : List (Nat × Instr × Nat) := [(0, .aload_n 0, 1), (1, .invokevirtual 296, 3), (4, .iload_n 1, 1), (5, .iconst 0, 1), (6, .aload_n 0, 1), (7, .getfield 42, 3), (10, .getfield 299, 3), (13, .iconst 1, 1), (14, .isub, 1), (15, .invokestatic 212, 3), (18, .aload_n 0, 1), (19, .getfield 42, 3), (22, .getfield 305, 3), (25, .iload_n 1, 1), (26, .iaload, 1), (27, .ireturn, 1)]
theorem dk_X11_walkedBy : dkL cX11_walkedBy ii_X11_walkedBy = true := by decide +kernel
abbrev ii_X11_walkGain : List (Nat × Instr × Nat) := [(0, .aload_n 0, 1), (1, .invokevirtual 296, 3), (4, .iconst 0, 1), (5, .istore_n 1, 1), (6, .iconst 0, 1), (7, .istore_n 2, 1), (8, .iload_n 2, 1), (9, .aload_n 0, 1), (10, .getfield 42, 3), (13, .getfield 299, 3), (16, .if_icmp .ge 28, 3), (19, .iload_n 1, 1), (20, .aload_n 0, 1), (21, .getfield 38, 3), (24, .getfield 176, 3), (27, .aload_n 0, 1), (28, .getfield 42, 3), (31, .iload_n 2, 1), (32, .invokevirtual 308, 3), (35, .iaload, 1), (36, .iadd, 1), (37, .istore_n 1, 1), (38, .iinc 2 1, 3), (41, .goto (-33), 3), (44, .iload_n 1, 1), (45, .ireturn, 1)]
theorem dk_X11_walkGain : dkL cX11_walkGain ii_X11_walkGain = true := by decide +kernel
abbrev ii_X11_gainOfWalks : List (Nat × Instr × Nat) := [(0, .aload_n 0, 1), (1, .invokevirtual 160, 3), (4, .iload_n 1, 1), (5, .iconst 1, 1), (6, .sipush 200, 3), (9, .invokestatic 212, 3), (12, .aload_n 0, 1), (13, .getfield 85, 3), (16, .aload_n 0, 1), (17, .getfield 42, 3), (20, .getfield 293, 3), (23, .putfield 311, 3), (26, .iconst 0, 1), (27, .istore_n 2, 1), (28, .iconst 0, 1), (29, .istore_n 3, 1), (30, .iload_n 3, 1), (31, .iload_n 1, 1), (32, .if_icmp .ge 23, 3), (35, .iload_n 2, 1), (36, .aload_n 0, 1), (37, .getfield 85, 3), (40, .aload_n 0, 1), (41, .getfield 42, 3), (44, .invokevirtual 312, 3), (47, .iadd, 1), (48, .istore_n 2, 1), (49, .iinc 3 1, 3), (52, .goto (-22), 3), (55, .iload_n 2, 1), (56, .ireturn, 1)]
theorem dk_X11_gainOfWalks : dkL cX11_gainOfWalks ii_X11_gainOfWalks = true := by decide +kernel
abbrev ii_X11_reportByte : List (Nat × Instr × Nat) := [(0, .iload_n 1, 1), (1, .ifCond .lt 14, 3), (4, .iload_n 1, 1), (5, .aload_n 0, 1), (6, .getfield 92, 3), (9, .getfield 316, 3), (12, .if_icmp .lt 14, 3), (15, .new 112, 3), (18, .dup, 1), (19, .ldc_w 323, 3), (22, .invokespecial 116, 3), (25, .athrow, 1), (26, .aload_n 0, 1), (27, .getfield 92, 3), (30, .getfield 325, 3), (33, .iload_n 1, 1), (34, .baload, 1), (35, .ireturn, 1)]
theorem dk_X11_reportByte : dkL cX11_reportByte ii_X11_reportByte = true := by decide +kernel
abbrev ii_X11_setRule : List (Nat × Instr × Nat) := [(0, .aload_n 0, 1), (1, .iload_n 1, 1), (2, .invokevirtual 166, 3), (5, .iload_n 2, 1), (6, .iconst 0, 1), (7, .bipush 10, 2), (9, .invokestatic 212, 3), (12, .iload_n 3, 1), (13, .iconst 0, 1), (14, .aload_n 0, 1), (15, .getfield 38, 3), (18, .getfield 169, 3), (21, .iload_n 1, 1), (22, .iaload, 1), (23, .iconst 1, 1), (24, .if_icmp .le 8, 3), (27, .bipush 10, 2), (29, .goto 4, 3), (32, .iconst 0, 1), (33, .invokestatic 212, 3), (36, .iload 4, 2), (38, .iconst 0, 1), (39, .aload_n 0, 1), (40, .getfield 38, 3), (43, .getfield 169, 3), (46, .iload_n 1, 1), (47, .iaload, 1), (48, .iconst 2, 1), (49, .if_icmp .le 8, 3), (52, .bipush 10, 2), (54, .goto 4, 3), (57, .iconst 0, 1), (58, .invokestatic 212, 3), (61, .iload_n 2, 1), (62, .iload_n 3, 1), (63, .iadd, 1), (64, .iload 4, 2), (66, .iadd, 1), (67, .bipush 10, 2), (69, .if_icmp .eq 14, 3), (72, .new 122, 3), (75, .dup, 1), (76, .ldc_w 329, 3), (79, .invokespecial 126, 3), (82, .athrow, 1), (83, .aload_n 0, 1), (84, .getfield 49, 3), (87, .aload_n 0, 1), (88, .getfield 42, 3), (91, .invokevirtual 331, 3), (94, .aload_n 0, 1), (95, .getfield 42, 3), (98, .getfield 192, 3), (101, .iload_n 1, 1), (102, .iload_n 2, 1), (103, .iload_n 3, 1), (104, .iload 4, 2), (106, .invokestatic 289, 3), (109, .aload_n 0, 1), (110, .aload_n 0, 1), (111, .getfield 42, 3), (114, .getfield 192, 3), (117, .invokevirtual 238, 3), (120, .ireturn, 1)]
theorem dk_X11_setRule : dkL cX11_setRule ii_X11_setRule = true := by decide +kernel
abbrev ii_X11_takeBest : List (Nat × Instr × Nat) := [(0, .aload_n 0, 1), (1, .invokevirtual 160, 3), (4, .aload_n 0, 1), (5, .getfield 69, 3), (8, .iconst (-1), 1), (9, .iconst 0, 1), (10, .invokevirtual 269, 3), (13, .ldc2_w 272, 3), (16, .lcmp, 1), (17, .ifCond .ne 14, 3), (20, .new 334, 3), (23, .dup, 1), (24, .ldc_w 336, 3), (27, .invokespecial 338, 3), (30, .athrow, 1), (31, .aload_n 0, 1), (32, .getfield 49, 3), (35, .aload_n 0, 1), (36, .getfield 42, 3), (39, .invokevirtual 331, 3), (42, .iconst 0, 1), (43, .istore_n 1, 1), (44, .iconst 0, 1), (45, .istore_n 2, 1), (46, .iload_n 2, 1), (47, .aload_n 0, 1), (48, .getfield 38, 3), (51, .getfield 151, 3), (54, .if_icmp .ge 38, 3), (57, .aload_n 0, 1), (58, .getfield 42, 3), (61, .getfield 192, 3), (64, .iload_n 2, 1), (65, .aload_n 0, 1), (66, .getfield 69, 3), (69, .getfield 274, 3), (72, .iload_n 2, 1), (73, .iaload, 1), (74, .invokestatic 179, 3), (77, .iaload, 1), (78, .bipush 10, 2), (80, .if_icmp .eq 6, 3), (83, .iinc 1 1, 3), (86, .iinc 2 1, 3), (89, .goto (-43), 3), (92, .aload_n 0, 1), (93, .getfield 69, 3), (96, .aload_n 0, 1), (97, .getfield 69, 3), (100, .getfield 274, 3), (103, .aload_n 0, 1), (104, .getfield 42, 3), (107, .getfield 192, 3), (110, .invokevirtual 339, 3), (113, .iload_n 1, 1), (114, .ireturn, 1)]
theorem dk_X11_takeBest : dkL cX11_takeBest ii_X11_takeBest = true := by decide +kernel
abbrev ii_X11_permit : List (Nat × Instr × Nat) := [(0, .aload_n 0, 1), (1, .iload_n 1, 1), (2, .iload_n 2, 1), (3, .invokevirtual 172, 3), (6, .aload_n 0, 1), (7, .getfield 42, 3), (10, .getfield 342, 3), (13, .iload_n 1, 1), (14, .iaload, 1), (15, .iconst 1, 1), (16, .iload_n 2, 1), (17, .ishl, 1), (18, .iconst (-1), 1), (19, .ixor, 1), (20, .iand, 1), (21, .istore 4, 2), (23, .iload_n 3, 1), (24, .ifCond .ne 33, 3), (27, .iload 4, 2), (29, .iconst 1, 1), (30, .aload_n 0, 1), (31, .getfield 38, 3), (34, .getfield 169, 3), (37, .iload_n 1, 1), (38, .iaload, 1), (39, .ishl, 1), (40, .iconst 1, 1), (41, .isub, 1), (42, .iand, 1), (43, .ifCond .ne 14, 3), (46, .new 122, 3), (49, .dup, 1), (50, .ldc_w 345, 3), (53, .invokespecial 126, 3), (56, .athrow, 1), (57, .aload_n 0, 1), (58, .getfield 42, 3), (61, .iload_n 1, 1), (62, .iload_n 2, 1), (63, .invokevirtual 195, 3), (66, .istore 5, 2), (68, .aload_n 0, 1), (69, .getfield 49, 3), (72, .aload_n 0, 1), (73, .getfield 42, 3), (76, .invokevirtual 331, 3), (79, .aload_n 0, 1), (80, .getfield 42, 3), (83, .getfield 342, 3), (86, .iload_n 1, 1), (87, .iload_n 3, 1), (88, .ifCond .eq 12, 3), (91, .iload 4, 2), (93, .iconst 1, 1), (94, .iload_n 2, 1), (95, .ishl, 1), (96, .ior, 1), (97, .goto 5, 3), (100, .iload 4, 2), (102, .iastore, 1), (103, .iload 5, 2), (105, .ireturn, 1)]
theorem dk_X11_permit : dkL cX11_permit ii_X11_permit = true := by decide +kernel
abbrev ii_X11_setLimit : List (Nat × Instr × Nat) := [(0, .aload_n 0, 1), (1, .iload_n 1, 1), (2, .invokevirtual 183, 3), (5, .iload_n 2, 1), (6, .iconst 0, 1), (7, .sipush 9999, 3), (10, .invokestatic 212, 3), (13, .aload_n 0, 1), (14, .getfield 49, 3), (17, .aload_n 0, 1), (18, .getfield 42, 3), (21, .invokevirtual 331, 3), (24, .aload_n 0, 1), (25, .getfield 42, 3), (28, .getfield 199, 3), (31, .iload_n 1, 1), (32, .iaload, 1), (33, .istore_n 3, 1), (34, .aload_n 0, 1), (35, .getfield 42, 3), (38, .getfield 199, 3), (41, .iload_n 1, 1), (42, .iload_n 2, 1), (43, .iastore, 1), (44, .iload_n 3, 1), (45, .ireturn, 1)]
theorem dk_X11_setLimit : dkL cX11_setLimit ii_X11_setLimit = true := by decide +kernel
abbrev ii_X11_setStart : List (Nat × Instr × Nat) := [(0, .aload_n 0, 1), (1, .iload_n 1, 1), (2, .invokevirtual 166, 3), (5, .aload_n 0, 1), (6, .getfield 49, 3), (9, .aload_n 0, 1), (10, .getfield 42, 3), (13, .invokevirtual 331, 3), (16, .aload_n 0, 1), (17, .getfield 42, 3), (20, .getfield 163, 3), (23, .istore_n 2, 1), (24, .aload_n 0, 1), (25, .getfield 42, 3), (28, .iload_n 1, 1), (29, .putfield 163, 3), (32, .iload_n 2, 1), (33, .ireturn, 1)]
theorem dk_X11_setStart : dkL cX11_setStart ii_X11_setStart = true := by decide +kernel
abbrev ii_X11_setHorizon : List (Nat × Instr × Nat) := [(0, .aload_n 0, 1), (1, .invokevirtual 160, 3), (4, .iload_n 1, 1), (5, .iconst 1, 1), (6, .iconst 5, 1), (7, .invokestatic 212, 3), (10, .aload_n 0, 1), (11, .getfield 49, 3), (14, .aload_n 0, 1), (15, .getfield 42, 3), (18, .invokevirtual 331, 3), (21, .aload_n 0, 1), (22, .getfield 42, 3), (25, .getfield 157, 3), (28, .istore_n 2, 1), (29, .aload_n 0, 1), (30, .getfield 42, 3), (33, .iload_n 1, 1), (34, .putfield 157, 3), (37, .iload_n 2, 1), (38, .ireturn, 1)]
theorem dk_X11_setHorizon : dkL cX11_setHorizon ii_X11_setHorizon = true := by decide +kernel
abbrev ii_X11_walk : List (Nat × Instr × Nat) := [(0, .aload_n 0, 1), (1, .invokevirtual 160, 3), (4, .aload_n 0, 1), (5, .getfield 49, 3), (8, .aload_n 0, 1), (9, .getfield 42, 3), (12, .invokevirtual 331, 3), (15, .aload_n 0, 1), (16, .getfield 85, 3), (19, .aload_n 0, 1), (20, .getfield 42, 3), (23, .getfield 293, 3), (26, .putfield 311, 3), (29, .aload_n 0, 1), (30, .getfield 85, 3), (33, .aload_n 0, 1), (34, .getfield 42, 3), (37, .getfield 163, 3), (40, .putfield 347, 3), (43, .aload_n 0, 1), (44, .getfield 42, 3), (47, .getfield 302, 3), (50, .iconst 0, 1), (51, .aload_n 0, 1), (52, .getfield 42, 3), (55, .getfield 163, 3), (58, .iastore, 1), (59, .iconst 0, 1), (60, .istore_n 1, 1), (61, .iload_n 1, 1), (62, .aload_n 0, 1), (63, .getfield 42, 3), (66, .getfield 157, 3), (69, .if_icmp .ge 57, 3), (72, .aload_n 0, 1), (73, .getfield 85, 3), (76, .aload_n 0, 1), (77, .getfield 42, 3), (80, .getfield 192, 3), (83, .invokevirtual 350, 3), (86, .aload_n 0, 1), (87, .getfield 42, 3), (90, .getfield 305, 3), (93, .iload_n 1, 1), (94, .aload_n 0, 1), (95, .getfield 85, 3), (98, .getfield 354, 3), (101, .iastore, 1), (102, .aload_n 0, 1), (103, .getfield 42, 3), (106, .getfield 302, 3), (109, .iload_n 1, 1), (110, .iconst 1, 1), (111, .iadd, 1), (112, .aload_n 0, 1), (113, .getfield 85, 3), (116, .getfield 347, 3), (119, .iastore, 1), (120, .iinc 1 1, 3), (123, .goto (-62), 3), (126, .aload_n 0, 1), (127, .getfield 42, 3), (130, .aload_n 0, 1), (131, .getfield 42, 3), (134, .getfield 157, 3), (137, .putfield 299, 3), (140, .aload_n 0, 1), (141, .getfield 42, 3), (144, .aload_n 0, 1), (145, .getfield 85, 3), (148, .getfield 311, 3), (151, .putfield 293, 3), (154, .aload_n 0, 1), (155, .getfield 85, 3), (158, .getfield 347, 3), (161, .ireturn, 1)]
theorem dk_X11_walk : dkL cX11_walk ii_X11_walk = true := by decide +kernel
abbrev ii_X11_undo : List (Nat × Instr × Nat) := [(0, .aload_n 0, 1), (1, .getfield 49, 3), (4, .getfield 357, 3), (7, .ifCond .ne 14, 3), (10, .new 334, 3), (13, .dup, 1), (14, .ldc_w 360, 3), (17, .invokespecial 338, 3), (20, .athrow, 1), (21, .aload_n 0, 1), (22, .getfield 49, 3), (25, .aload_n 0, 1), (26, .getfield 42, 3), (29, .invokevirtual 362, 3), (32, .aload_n 0, 1), (33, .getfield 49, 3), (36, .getfield 357, 3), (39, .ireturn, 1)]
theorem dk_X11_undo : dkL cX11_undo ii_X11_undo = true := by decide +kernel
abbrev ii_X11_undoable : List (Nat × Instr × Nat) := [(0, .aload_n 0, 1), (1, .getfield 49, 3), (4, .getfield 357, 3), (7, .ireturn, 1)]
theorem dk_X11_undoable : dkL cX11_undoable ii_X11_undoable = true := by decide +kernel
abbrev ii_X11_save : List (Nat × Instr × Nat) := [(0, .aload_n 0, 1), (1, .invokevirtual 160, 3), (4, .iload_n 1, 1), (5, .invokestatic 365, 3), (8, .aload_n 0, 1), (9, .getfield 49, 3), (12, .iload_n 1, 1), (13, .aload_n 0, 1), (14, .getfield 42, 3), (17, .invokevirtual 368, 3), (20, .aload_n 0, 1), (21, .getfield 42, 3), (24, .getfield 293, 3), (27, .ireturn, 1)]
theorem dk_X11_save : dkL cX11_save ii_X11_save = true := by decide +kernel
abbrev ii_X11_restore : List (Nat × Instr × Nat) := [(0, .iload_n 1, 1), (1, .invokestatic 365, 3), (4, .aload_n 0, 1), (5, .getfield 49, 3), (8, .iload_n 1, 1), (9, .invokevirtual 371, 3), (12, .ifCond .ne 14, 3), (15, .new 334, 3), (18, .dup, 1), (19, .ldc_w 374, 3), (22, .invokespecial 338, 3), (25, .athrow, 1), (26, .aload_n 0, 1), (27, .getfield 49, 3), (30, .iload_n 1, 1), (31, .aload_n 0, 1), (32, .getfield 42, 3), (35, .invokevirtual 376, 3), (38, .aload_n 0, 1), (39, .getfield 42, 3), (42, .getfield 293, 3), (45, .ireturn, 1)]
theorem dk_X11_restore : dkL cX11_restore ii_X11_restore = true := by decide +kernel
abbrev ii_X11_needChain : List (Nat × Instr × Nat) := [(0, .aload_n 0, 1), (1, .getfield 38, 3), (4, .getfield 151, 3), (7, .ifCond .ne 14, 3), (10, .new 334, 3), (13, .dup, 1), (14, .ldc_w 379, 3), (17, .invokespecial 338, 3), (20, .athrow, 1), (21, .return_, 1)]
theorem dk_X11_needChain : dkL cX11_needChain ii_X11_needChain = true := by decide +kernel
abbrev ii_X11_needState : List (Nat × Instr × Nat) := [(0, .aload_n 0, 1), (1, .invokevirtual 160, 3), (4, .iload_n 1, 1), (5, .ifCond .lt 14, 3), (8, .iload_n 1, 1), (9, .aload_n 0, 1), (10, .getfield 38, 3), (13, .getfield 151, 3), (16, .if_icmp .lt 14, 3), (19, .new 112, 3), (22, .dup, 1), (23, .ldc_w 381, 3), (26, .invokespecial 116, 3), (29, .athrow, 1), (30, .return_, 1)]
theorem dk_X11_needState : dkL cX11_needState ii_X11_needState = true := by decide +kernel
abbrev ii_X11_needAction : List (Nat × Instr × Nat) := [(0, .aload_n 0, 1), (1, .iload_n 1, 1), (2, .invokevirtual 166, 3), (5, .iload_n 2, 1), (6, .ifCond .lt 16, 3), (9, .iload_n 2, 1), (10, .aload_n 0, 1), (11, .getfield 38, 3), (14, .getfield 169, 3), (17, .iload_n 1, 1), (18, .iaload, 1), (19, .if_icmp .lt 14, 3), (22, .new 112, 3), (25, .dup, 1), (26, .ldc_w 383, 3), (29, .invokespecial 116, 3), (32, .athrow, 1), (33, .return_, 1)]
theorem dk_X11_needAction : dkL cX11_needAction ii_X11_needAction = true := by decide +kernel
abbrev ii_X11_needBudget : List (Nat × Instr × Nat) := [(0, .aload_n 0, 1), (1, .invokevirtual 160, 3), (4, .iload_n 1, 1), (5, .ifCond .lt 14, 3), (8, .iload_n 1, 1), (9, .aload_n 0, 1), (10, .getfield 38, 3), (13, .getfield 154, 3), (16, .if_icmp .lt 14, 3), (19, .new 112, 3), (22, .dup, 1), (23, .ldc_w 385, 3), (26, .invokespecial 116, 3), (29, .athrow, 1), (30, .return_, 1)]
theorem dk_X11_needBudget : dkL cX11_needBudget ii_X11_needBudget = true := by decide +kernel
abbrev ii_X11_needTime : List (Nat × Instr × Nat) := [(0, .aload_n 0, 1), (1, .invokevirtual 160, 3), (4, .iload_n 1, 1), (5, .iconst 0, 1), (6, .aload_n 0, 1), (7, .getfield 42, 3), (10, .getfield 157, 3), (13, .invokestatic 212, 3), (16, .return_, 1)]
theorem dk_X11_needTime : dkL cX11_needTime ii_X11_needTime = true := by decide +kernel
abbrev ii_X11_needWalk : List (Nat × Instr × Nat) := [(0, .aload_n 0, 1), (1, .invokevirtual 160, 3), (4, .aload_n 0, 1), (5, .getfield 42, 3), (8, .getfield 299, 3), (11, .iconst (-1), 1), (12, .if_icmp .ne 14, 3), (15, .new 334, 3), (18, .dup, 1), (19, .ldc_w 387, 3), (22, .invokespecial 338, 3), (25, .athrow, 1), (26, .return_, 1)]
theorem dk_X11_needWalk : dkL cX11_needWalk ii_X11_needWalk = true := by decide +kernel
abbrev ii_X11_needSlot : List (Nat × Instr × Nat) := [(0, .iload_n 0, 1), (1, .ifCond .lt 8, 3), (4, .iload_n 0, 1), (5, .iconst 2, 1), (6, .if_icmp .lt 14, 3), (9, .new 112, 3), (12, .dup, 1), (13, .ldc_w 389, 3), (16, .invokespecial 116, 3), (19, .athrow, 1), (20, .return_, 1)]
theorem dk_X11_needSlot : dkL cX11_needSlot ii_X11_needSlot = true := by decide +kernel
abbrev ii_X11_needRange : List (Nat × Instr × Nat) := [(0, .iload_n 0, 1), (1, .iload_n 1, 1), (2, .if_icmp .lt 8, 3), (5, .iload_n 0, 1), (6, .iload_n 2, 1), (7, .if_icmp .le 14, 3), (10, .new 122, 3), (13, .dup, 1), (14, .ldc_w 391, 3), (17, .invokespecial 126, 3), (20, .athrow, 1), (21, .return_, 1)]
theorem dk_X11_needRange : dkL cX11_needRange ii_X11_needRange = true := by decide +kernel
abbrev ii_X11_rowOf : List (Nat × Instr × Nat) := [(0, .iload_n 0, 1), (1, .iconst 3, 1), (2, .imul, 1), (3, .iload_n 1, 1), (4, .iadd, 1), (5, .ireturn, 1)]
theorem dk_X11_rowOf : dkL cX11_rowOf ii_X11_rowOf = true := by decide +kernel
abbrev ii_X11_copyRow : List (Nat × Instr × Nat) := [(0, .aload_n 0, 1), (1, .iconst 0, 1), (2, .aload_n 1, 1), (3, .iconst 0, 1), (4, .aload_n 0, 1), (5, .arraylength, 1), (6, .aload_n 1, 1), (7, .arraylength, 1), (8, .invokestatic 393, 3), (11, .invokestatic 398, 3), (14, .return_, 1)]
theorem dk_X11_copyRow : dkL cX11_copyRow ii_X11_copyRow = true := by decide +kernel
abbrev ii_X11_setWeights : List (Nat × Instr × Nat) := [(0, .aload_n 0, 1), (1, .iload_n 1, 1), (2, .iconst 0, 1), (3, .invokestatic 179, 3), (6, .iload_n 2, 1), (7, .iastore, 1), (8, .aload_n 0, 1), (9, .iload_n 1, 1), (10, .iconst 1, 1), (11, .invokestatic 179, 3), (14, .iload_n 3, 1), (15, .iastore, 1), (16, .aload_n 0, 1), (17, .iload_n 1, 1), (18, .iconst 2, 1), (19, .invokestatic 179, 3), (22, .iload 4, 2), (24, .iastore, 1), (25, .return_, 1)]
theorem dk_X11_setWeights : dkL cX11_setWeights ii_X11_setWeights = true := by decide +kernel
abbrev ii_X11_unitOf : List (Nat × Instr × Nat) := [(0, .ldc2_w 404, 3), (3, .lstore_n 1, 1), (4, .iconst 1, 1), (5, .istore_n 3, 1), (6, .iload_n 3, 1), (7, .iload_n 0, 1), (8, .if_icmp .ge 15, 3), (11, .lload_n 1, 1), (12, .ldc2_w 406, 3), (15, .lmul, 1), (16, .lstore_n 1, 1), (17, .iinc 3 1, 3), (20, .goto (-14), 3), (23, .lload_n 1, 1), (24, .lreturn, 1)]
theorem dk_X11_unitOf : dkL cX11_unitOf ii_X11_unitOf = true := by decide +kernel
abbrev ii_X11_followRules : List (Nat × Instr × Nat) := [(0, .aload_n 0, 1), (1, .getfield 53, 3), (4, .aload_n 0, 1), (5, .getfield 42, 3), (8, .getfield 192, 3), (11, .aload_n 0, 1), (12, .getfield 42, 3), (15, .getfield 163, 3), (18, .aload_n 0, 1), (19, .getfield 42, 3), (22, .getfield 157, 3), (25, .invokevirtual 408, 3), (28, .return_, 1)]
theorem dk_X11_followRules : dkL cX11_followRules ii_X11_followRules = true := by decide +kernel
abbrev ii_X11_brokenWith : List (Nat × Instr × Nat) := [(0, .aload_n 0, 1), (1, .getfield 53, 3), (4, .aload_n 1, 1), (5, .aload_n 0, 1), (6, .getfield 42, 3), (9, .getfield 163, 3), (12, .aload_n 0, 1), (13, .getfield 42, 3), (16, .getfield 157, 3), (19, .invokevirtual 408, 3), (22, .iconst 0, 1), (23, .istore_n 2, 1), (24, .iconst 0, 1), (25, .istore_n 3, 1), (26, .iload_n 3, 1), (27, .aload_n 0, 1), (28, .getfield 38, 3), (31, .getfield 154, 3), (34, .if_icmp .ge 49, 3), (37, .aload_n 0, 1), (38, .getfield 53, 3), (41, .aload_n 1, 1), (42, .iload_n 3, 1), (43, .invokevirtual 234, 3), (46, .aload_n 0, 1), (47, .getfield 42, 3), (50, .getfield 199, 3), (53, .iload_n 3, 1), (54, .iaload, 1), (55, .i2l, 1), (56, .aload_n 0, 1), (57, .getfield 42, 3), (60, .getfield 157, 3), (63, .invokestatic 227, 3), (66, .lmul, 1), (67, .lcmp, 1), (68, .ifCond .le 9, 3), (71, .iload_n 2, 1), (72, .iconst 1, 1), (73, .iload_n 3, 1), (74, .ishl, 1), (75, .ior, 1), (76, .istore_n 2, 1), (77, .iinc 3 1, 3), (80, .goto (-54), 3), (83, .iload_n 2, 1), (84, .ireturn, 1)]
theorem dk_X11_brokenWith : dkL cX11_brokenWith ii_X11_brokenWith = true := by decide +kernel
abbrev ii_X12_init_0 : List (Nat × Instr × Nat) := [(0, .aload_n 0, 1), (1, .invokespecial 1, 3), (4, .aload_n 0, 1), (5, .new 7, 3), (8, .dup, 1), (9, .ldc 9, 2), (11, .invokespecial 11, 3), (14, .putfield 14, 3), (17, .aload_n 0, 1), (18, .iconst 3, 1), (19, .newarray .int, 2), (21, .putfield 20, 3), (24, .aload_n 0, 1), (25, .bipush 6, 2), (27, .newarray .int, 2), (29, .putfield 24, 3), (32, .aload_n 0, 1), (33, .bipush 6, 2), (35, .iconst 3, 1), (36, .multianewarray 27 2, 4), (40, .putfield 29, 3), (43, .aload_n 0, 1), (44, .bipush 6, 2), (46, .iconst 3, 1), (47, .multianewarray 27 2, 4), (51, .putfield 32, 3), (54, .aload_n 0, 1), (55, .bipush 6, 2), (57, .iconst 3, 1), (58, .iconst 3, 1), (59, .multianewarray 35 3, 4), (63, .putfield 37, 3), (66, .aload_n 0, 1), (67, .bipush 6, 2), (69, .iconst 3, 1), (70, .bipush 6, 2), (72, .multianewarray 35 3, 4), (76, .putfield 40, 3), (79, .aload_n 0, 1), (80, .bipush 6, 2), (82, .iconst 3, 1), (83, .bipush 7, 2), (85, .multianewarray 35 3, 4), (89, .putfield 43, 3), (92, .aload_n 0, 1), (93, .bipush 6, 2), (95, .iconst 3, 1), (96, .multianewarray 46 2, 4)]
theorem dk_X12_init_0 : dkL cX12_init ii_X12_init_0 = true := by decide +kernel
abbrev ii_X12_init_1 : List (Nat × Instr × Nat) := [(100, .putfield 48, 3), (103, .aload_n 0, 1), (104, .iconst (-1), 1), (105, .putfield 51, 3), (108, .aload_n 0, 1), (109, .bipush 6, 2), (111, .newarray .int, 2), (113, .putfield 55, 3), (116, .aload_n 0, 1), (117, .iconst 5, 1), (118, .newarray .int, 2), (120, .putfield 58, 3), (123, .aload_n 0, 1), (124, .aload_n 1, 1), (125, .iconst 1, 1), (126, .iconst 4, 1), (127, .invokevirtual 61, 3), (130, .putfield 67, 3), (133, .aload_n 0, 1), (134, .aload_n 1, 1), (135, .iconst 1, 1), (136, .iconst 4, 1), (137, .invokevirtual 61, 3), (140, .putfield 70, 3), (143, .aload_n 0, 1), (144, .aload_n 1, 1), (145, .iconst 0, 1), (146, .sipush 30010, 3), (149, .invokevirtual 61, 3), (152, .putfield 73, 3), (155, .aload_n 0, 1), (156, .getfield 14, 3), (159, .aload_n 0, 1), (160, .getfield 67, 3), (163, .invokevirtual 76, 3), (166, .ldc 80, 2), (168, .invokevirtual 82, 3), (171, .aload_n 0, 1), (172, .getfield 70, 3), (175, .invokevirtual 76, 3), (178, .ldc 85, 2), (180, .invokevirtual 82, 3), (183, .aload_n 0, 1), (184, .getfield 73, 3), (187, .invokevirtual 76, 3), (190, .pop, 1), (191, .aload_n 0, 1), (192, .aload_n 1, 1)]
theorem dk_X12_init_1 : dkL cX12_init ii_X12_init_1 = true := by decide +kernel
abbrev ii_X12_init_2 : List (Nat × Instr × Nat) := [(193, .iconst 0, 1), (194, .iconst 3, 1), (195, .invokevirtual 61, 3), (198, .putfield 87, 3), (201, .iconst 0, 1), (202, .istore_n 2, 1), (203, .iload_n 2, 1), (204, .aload_n 0, 1), (205, .getfield 87, 3), (208, .if_icmp .ge 42, 3), (211, .aload_n 0, 1), (212, .getfield 20, 3), (215, .iload_n 2, 1), (216, .aload_n 1, 1), (217, .iconst 0, 1), (218, .sipush 150, 3), (221, .invokevirtual 61, 3), (224, .iastore, 1), (225, .aload_n 0, 1), (226, .getfield 14, 3), (229, .ldc 90, 2), (231, .invokevirtual 82, 3), (234, .aload_n 0, 1), (235, .getfield 20, 3), (238, .iload_n 2, 1), (239, .iaload, 1), (240, .invokevirtual 76, 3), (243, .pop, 1), (244, .iinc 2 1, 3), (247, .goto (-44), 3), (250, .iconst 0, 1), (251, .istore_n 2, 1), (252, .iload_n 2, 1), (253, .aload_n 0, 1), (254, .getfield 67, 3), (257, .if_icmp .ge 52, 3), (260, .aload_n 0, 1), (261, .getfield 24, 3), (264, .iload_n 2, 1), (265, .aload_n 1, 1), (266, .iconst 1, 1), (267, .iconst 3, 1), (268, .invokevirtual 61, 3), (271, .iastore, 1), (272, .iconst 0, 1), (273, .istore_n 3, 1), (274, .iload_n 3, 1), (275, .aload_n 0, 1)]
theorem dk_X12_init_2 : dkL cX12_init ii_X12_init_2 = true := by decide +kernel
abbrev ii_X12_init_3 : List (Nat × Instr × Nat) := [(276, .getfield 24, 3), (279, .iload_n 2, 1), (280, .iaload, 1), (281, .if_icmp .ge 16, 3), (284, .aload_n 0, 1), (285, .aload_n 1, 1), (286, .iload_n 2, 1), (287, .iload_n 3, 1), (288, .invokevirtual 92, 3), (291, .iinc 3 1, 3), (294, .goto (-20), 3), (297, .aload_n 0, 1), (298, .aload_n 1, 1), (299, .iload_n 2, 1), (300, .invokevirtual 96, 3), (303, .iinc 2 1, 3), (306, .goto (-54), 3), (309, .aload_n 1, 1), (310, .iconst 0, 1), (311, .iconst 1, 1), (312, .invokevirtual 61, 3), (315, .ifCond .ne 4, 3), (318, .return_, 1), (319, .aload_n 0, 1), (320, .aload_n 1, 1), (321, .iconst 0, 1), (322, .aload_n 0, 1), (323, .getfield 67, 3), (326, .iconst 1, 1), (327, .isub, 1), (328, .invokevirtual 61, 3), (331, .putfield 100, 3), (334, .aload_n 0, 1), (335, .getfield 14, 3), (338, .ldc 103, 2), (340, .invokevirtual 82, 3), (343, .aload_n 0, 1), (344, .getfield 100, 3), (347, .invokevirtual 76, 3), (350, .pop, 1), (351, .return_, 1)]
theorem dk_X12_init_3 : dkL cX12_init ii_X12_init_3 = true := by decide +kernel
abbrev ii_X12_act_0 : List (Nat × Instr × Nat) := [(0, .aload_n 0, 1), (1, .getfield 29, 3), (4, .iload_n 2, 1), (5, .aaload, 1), (6, .iload_n 3, 1), (7, .aload_n 1, 1), (8, .iconst 0, 1), (9, .bipush 60, 2), (11, .invokevirtual 61, 3), (14, .bipush 20, 2), (16, .isub, 1), (17, .iastore, 1), (18, .aload_n 0, 1), (19, .getfield 48, 3), (22, .iload_n 2, 1), (23, .aaload, 1), (24, .iload_n 3, 1), (25, .iconst 1, 1), (26, .bastore, 1), (27, .aload_n 0, 1), (28, .getfield 14, 3), (31, .ldc 105, 2), (33, .invokevirtual 82, 3), (36, .iload_n 2, 1), (37, .invokevirtual 76, 3), (40, .aload_n 0, 1), (41, .getfield 29, 3), (44, .iload_n 2, 1), (45, .aaload, 1), (46, .iload_n 3, 1), (47, .iaload, 1), (48, .ifCond .ge 8, 3), (51, .ldc 107, 2), (53, .goto 5, 3), (56, .ldc 109, 2), (58, .invokevirtual 82, 3), (61, .aload_n 0, 1), (62, .getfield 29, 3), (65, .iload_n 2, 1), (66, .aaload, 1), (67, .iload_n 3, 1), (68, .iaload, 1), (69, .invokestatic 111, 3), (72, .invokevirtual 76, 3), (75, .pop, 1), (76, .iconst 0, 1), (77, .istore 4, 2), (79, .iload 4, 2)]
theorem dk_X12_act_0 : dkL cX12_act ii_X12_act_0 = true := by decide +kernel
abbrev ii_X12_act_1 : List (Nat × Instr × Nat) := [(81, .aload_n 0, 1), (82, .getfield 87, 3), (85, .if_icmp .ge 88, 3), (88, .aload_n 0, 1), (89, .getfield 37, 3), (92, .iload_n 2, 1), (93, .aaload, 1), (94, .iload_n 3, 1), (95, .aaload, 1), (96, .iload 4, 2), (98, .aload_n 1, 1), (99, .iconst 0, 1), (100, .iconst 2, 1), (101, .invokevirtual 61, 3), (104, .ifCond .ne 7, 3), (107, .iconst 0, 1), (108, .goto 10, 3), (111, .aload_n 1, 1), (112, .iconst 1, 1), (113, .bipush 60, 2), (115, .invokevirtual 61, 3), (118, .iastore, 1), (119, .aload_n 0, 1), (120, .getfield 37, 3), (123, .iload_n 2, 1), (124, .aaload, 1), (125, .iload_n 3, 1), (126, .aaload, 1), (127, .iload 4, 2), (129, .iaload, 1), (130, .ifCond .le 37, 3), (133, .aload_n 0, 1), (134, .getfield 14, 3), (137, .ldc 117, 2), (139, .invokevirtual 82, 3), (142, .iload 4, 2), (144, .invokevirtual 76, 3), (147, .bipush 32, 2), (149, .invokevirtual 119, 3), (152, .aload_n 0, 1), (153, .getfield 37, 3), (156, .iload_n 2, 1), (157, .aaload, 1), (158, .iload_n 3, 1), (159, .aaload, 1), (160, .iload 4, 2), (162, .iaload, 1), (163, .invokevirtual 76, 3)]
theorem dk_X12_act_1 : dkL cX12_act ii_X12_act_1 = true := by decide +kernel
abbrev ii_X12_act_2 : List (Nat × Instr × Nat) := [(166, .pop, 1), (167, .iinc 4 1, 3), (170, .goto (-91), 3), (173, .bipush 100, 2), (175, .istore 4, 2), (177, .aload_n 1, 1), (178, .iconst 0, 1), (179, .aload_n 0, 1), (180, .getfield 67, 3), (183, .iconst 1, 1), (184, .isub, 1), (185, .invokevirtual 61, 3), (188, .istore 5, 2), (190, .iconst 0, 1), (191, .istore 6, 2), (193, .iconst 0, 1), (194, .istore 7, 2), (196, .iload 7, 2), (198, .aload_n 0, 1), (199, .getfield 67, 3), (202, .if_icmp .ge 121, 3), (205, .iload 4, 2), (207, .ifCond .le 116, 3), (210, .iload 5, 2), (212, .iload 7, 2), (214, .iadd, 1), (215, .aload_n 0, 1), (216, .getfield 67, 3), (219, .irem, 1), (220, .istore 8, 2), (222, .iload 7, 2), (224, .aload_n 0, 1), (225, .getfield 67, 3), (228, .iconst 1, 1), (229, .isub, 1), (230, .if_icmp .eq 12, 3), (233, .aload_n 1, 1), (234, .iconst 0, 1), (235, .iconst 2, 1), (236, .invokevirtual 61, 3), (239, .ifCond .ne 8, 3), (242, .iload 4, 2), (244, .goto 10, 3), (247, .aload_n 1, 1), (248, .iconst 1, 1), (249, .iload 4, 2), (251, .invokevirtual 61, 3), (254, .istore 9, 2)]
theorem dk_X12_act_2 : dkL cX12_act ii_X12_act_2 = true := by decide +kernel
abbrev ii_X12_act_3 : List (Nat × Instr × Nat) := [(256, .aload_n 0, 1), (257, .getfield 40, 3), (260, .iload_n 2, 1), (261, .aaload, 1), (262, .iload_n 3, 1), (263, .aaload, 1), (264, .iload 8, 2), (266, .iload 9, 2), (268, .iastore, 1), (269, .iload 4, 2), (271, .iload 9, 2), (273, .isub, 1), (274, .istore 4, 2), (276, .aload_n 0, 1), (277, .getfield 43, 3), (280, .iload_n 2, 1), (281, .aaload, 1), (282, .iload_n 3, 1), (283, .aaload, 1), (284, .iload 6, 2), (286, .iload 8, 2), (288, .iastore, 1), (289, .iinc 6 1, 3), (292, .aload_n 0, 1), (293, .getfield 14, 3), (296, .ldc 122, 2), (298, .invokevirtual 82, 3), (301, .iload 8, 2), (303, .invokevirtual 76, 3), (306, .bipush 32, 2), (308, .invokevirtual 119, 3), (311, .iload 9, 2), (313, .invokevirtual 76, 3), (316, .pop, 1), (317, .iinc 7 1, 3), (320, .goto (-124), 3), (323, .return_, 1)]
theorem dk_X12_act_3 : dkL cX12_act ii_X12_act_3 = true := by decide +kernel
abbrev ii_X12_rule : List (Nat × Instr × Nat) := [(0, .aload_n 0, 1), (1, .getfield 32, 3), (4, .iload_n 2, 1), (5, .aaload, 1), (6, .iconst 0, 1), (7, .bipush 10, 2), (9, .iastore, 1), (10, .aload_n 1, 1), (11, .iconst 0, 1), (12, .iconst 2, 1), (13, .invokevirtual 61, 3), (16, .ifCond .ne 4, 3), (19, .return_, 1), (20, .iconst 0, 1), (21, .istore_n 3, 1), (22, .iload_n 3, 1), (23, .iconst 1, 1), (24, .iadd, 1), (25, .aload_n 0, 1), (26, .getfield 24, 3), (29, .iload_n 2, 1), (30, .iaload, 1), (31, .if_icmp .ge 53, 3), (34, .aload_n 0, 1), (35, .getfield 32, 3), (38, .iload_n 2, 1), (39, .aaload, 1), (40, .iload_n 3, 1), (41, .iconst 1, 1), (42, .iadd, 1), (43, .aload_n 1, 1), (44, .iconst 0, 1), (45, .aload_n 0, 1), (46, .getfield 32, 3), (49, .iload_n 2, 1), (50, .aaload, 1), (51, .iload_n 3, 1), (52, .iaload, 1), (53, .invokevirtual 61, 3), (56, .iastore, 1), (57, .aload_n 0, 1), (58, .getfield 32, 3), (61, .iload_n 2, 1), (62, .aaload, 1), (63, .iload_n 3, 1), (64, .dup2, 1), (65, .iaload, 1), (66, .aload_n 0, 1), (67, .getfield 32, 3), (70, .iload_n 2, 1), (71, .aaload, 1), (72, .iload_n 3, 1), (73, .iconst 1, 1), (74, .iadd, 1), (75, .iaload, 1), (76, .isub, 1), (77, .iastore, 1), (78, .iinc 3 1, 3), (81, .goto (-59), 3), (84, .aload_n 0, 1), (85, .getfield 14, 3), (88, .ldc 124, 2), (90, .invokevirtual 82, 3), (93, .iload_n 2, 1), (94, .invokevirtual 76, 3), (97, .pop, 1), (98, .iconst 0, 1), (99, .istore_n 3, 1), (100, .iload_n 3, 1), (101, .aload_n 0, 1), (102, .getfield 24, 3), (105, .iload_n 2, 1), (106, .iaload, 1), (107, .if_icmp .ge 30, 3), (110, .aload_n 0, 1), (111, .getfield 14, 3), (114, .bipush 32, 2), (116, .invokevirtual 119, 3), (119, .aload_n 0, 1), (120, .getfield 32, 3), (123, .iload_n 2, 1), (124, .aaload, 1), (125, .iload_n 3, 1), (126, .iaload, 1), (127, .invokevirtual 76, 3), (130, .pop, 1), (131, .iinc 3 1, 3), (134, .goto (-34), 3), (137, .return_, 1)]
theorem dk_X12_rule : dkL cX12_rule ii_X12_rule = true := by decide +kernel
abbrev ii_X12_step : List (Nat × Instr × Nat) := [(0, .iconst 0, 1), (1, .istore_n 3, 1), (2, .iconst 0, 1), (3, .istore 4, 2), (5, .iload 4, 2), (7, .aload_n 0, 1), (8, .getfield 24, 3), (11, .iload_n 1, 1), (12, .iaload, 1), (13, .if_icmp .ge 33, 3), (16, .iload_n 3, 1), (17, .aload_n 0, 1), (18, .getfield 32, 3), (21, .iload_n 1, 1), (22, .aaload, 1), (23, .iload 4, 2), (25, .iaload, 1), (26, .aload_n 0, 1), (27, .getfield 40, 3), (30, .iload_n 1, 1), (31, .aaload, 1), (32, .iload 4, 2), (34, .aaload, 1), (35, .iload_n 2, 1), (36, .iaload, 1), (37, .imul, 1), (38, .iadd, 1), (39, .istore_n 3, 1), (40, .iinc 4 1, 3), (43, .goto (-38), 3), (46, .iload_n 3, 1), (47, .ireturn, 1)]
theorem dk_X12_step : dkL cX12_step ii_X12_step = true := by decide +kernel
abbrev ii_X12_flow : List (Nat × Instr × Nat) := [(0, .aload_n 0, 1), (1, .getfield 67, 3), (4, .newarray .long, 2), (6, .astore_n 3, 1), (7, .aload_n 3, 1), (8, .aload_n 0, 1), (9, .getfield 100, 3), (12, .lconst 1, 1), (13, .lastore, 1), (14, .iconst 0, 1), (15, .istore 4, 2), (17, .iload 4, 2), (19, .iload_n 2, 1), (20, .if_icmp .ge 78, 3), (23, .aload_n 0, 1), (24, .getfield 67, 3), (27, .newarray .long, 2), (29, .astore 5, 2), (31, .iconst 0, 1), (32, .istore 6, 2), (34, .iload 6, 2), (36, .aload_n 0, 1), (37, .getfield 67, 3), (40, .if_icmp .ge 49, 3), (43, .iconst 0, 1), (44, .istore 7, 2), (46, .iload 7, 2), (48, .aload_n 0, 1), (49, .getfield 67, 3), (52, .if_icmp .ge 31, 3), (55, .aload 5, 2), (57, .iload 7, 2), (59, .dup2, 1), (60, .laload, 1), (61, .aload_n 3, 1), (62, .iload 6, 2), (64, .laload, 1), (65, .aload_n 0, 1), (66, .iload 6, 2), (68, .iload 7, 2), (70, .invokevirtual 126, 3), (73, .i2l, 1), (74, .lmul, 1), (75, .ladd, 1), (76, .lastore, 1), (77, .iinc 7 1, 3), (80, .goto (-34), 3), (83, .iinc 6 1, 3), (86, .goto (-52), 3), (89, .aload 5, 2), (91, .astore_n 3, 1), (92, .iinc 4 1, 3), (95, .goto (-78), 3), (98, .aload_n 3, 1), (99, .iload_n 1, 1), (100, .laload, 1), (101, .lreturn, 1)]
theorem dk_X12_flow : dkL cX12_flow ii_X12_flow = true := by decide +kernel
abbrev ii_X12_mean : List (Nat × Instr × Nat) := [(0, .iload_n 2, 1), (1, .ifCond .ne 5, 3), (4, .lconst 0, 1), (5, .lreturn, 1), (6, .lconst 1, 1), (7, .lstore 4, 2), (9, .lconst 0, 1), (10, .lstore 6, 2), (12, .iconst 1, 1), (13, .istore 8, 2), (15, .iload 8, 2), (17, .iload_n 2, 1), (18, .if_icmp .ge 17, 3), (21, .lload 4, 2), (23, .ldc2_w 129, 3), (26, .lmul, 1), (27, .lstore 4, 2), (29, .iinc 8 1, 3), (32, .goto (-17), 3), (35, .iconst 0, 1), (36, .istore 8, 2), (38, .iload 8, 2), (40, .aload_n 0, 1), (41, .getfield 24, 3), (44, .iload_n 1, 1), (45, .iaload, 1), (46, .if_icmp .ge 56, 3), (49, .lload 6, 2), (51, .aload_n 0, 1), (52, .getfield 32, 3), (55, .iload_n 1, 1), (56, .aaload, 1), (57, .iload 8, 2), (59, .iaload, 1), (60, .i2l, 1), (61, .iload_n 3, 1), (62, .ifCond .ge 15, 3), (65, .aload_n 0, 1), (66, .getfield 29, 3), (69, .iload_n 1, 1), (70, .aaload, 1), (71, .iload 8, 2), (73, .iaload, 1), (74, .goto 14, 3), (77, .aload_n 0, 1), (78, .getfield 37, 3), (81, .iload_n 1, 1), (82, .aaload, 1), (83, .iload 8, 2), (85, .aaload, 1), (86, .iload_n 3, 1), (87, .iaload, 1), (88, .i2l, 1), (89, .lmul, 1), (90, .lload 4, 2), (92, .lmul, 1), (93, .ladd, 1), (94, .lstore 6, 2), (96, .iinc 8 1, 3), (99, .goto (-61), 3), (102, .iconst 0, 1), (103, .istore 8, 2), (105, .iload 8, 2), (107, .aload_n 0, 1), (108, .getfield 67, 3), (111, .if_icmp .ge 48, 3), (114, .iload_n 2, 1), (115, .iconst 1, 1), (116, .if_icmp .le 43, 3), (119, .aload_n 0, 1), (120, .iload_n 1, 1), (121, .iload 8, 2), (123, .invokevirtual 126, 3), (126, .ifCond .le 27, 3), (129, .lload 6, 2), (131, .aload_n 0, 1), (132, .iload_n 1, 1), (133, .iload 8, 2), (135, .invokevirtual 126, 3), (138, .i2l, 1), (139, .aload_n 0, 1), (140, .iload 8, 2), (142, .iload_n 2, 1), (143, .iconst 1, 1), (144, .isub, 1), (145, .iload_n 3, 1), (146, .invokevirtual 131, 3), (149, .lmul, 1), (150, .ladd, 1), (151, .lstore 6, 2), (153, .iinc 8 1, 3), (156, .goto (-51), 3), (159, .lload 6, 2), (161, .lreturn, 1)]
theorem dk_X12_mean : dkL cX12_mean ii_X12_mean = true := by decide +kernel
abbrev ii_X12_unit : List (Nat × Instr × Nat) := [(0, .ldc2_w 135, 3), (3, .lstore_n 1, 1), (4, .iconst 1, 1), (5, .istore_n 3, 1), (6, .iload_n 3, 1), (7, .aload_n 0, 1), (8, .getfield 70, 3), (11, .if_icmp .ge 15, 3), (14, .lload_n 1, 1), (15, .ldc2_w 129, 3), (18, .lmul, 1), (19, .lstore_n 1, 1), (20, .iinc 3 1, 3), (23, .goto (-17), 3), (26, .lload_n 1, 1), (27, .lreturn, 1)]
theorem dk_X12_unit : dkL cX12_unit ii_X12_unit = true := by decide +kernel
abbrev ii_X12_draw : List (Nat × Instr × Nat) := [(0, .aload_n 0, 1), (1, .bipush 109, 2), (3, .aload_n 0, 1), (4, .getfield 73, 3), (7, .imul, 1), (8, .sipush 1021, 3), (11, .iadd, 1), (12, .sipush 30011, 3), (15, .irem, 1), (16, .putfield 73, 3), (19, .aload_n 0, 1), (20, .getfield 73, 3), (23, .iload_n 1, 1), (24, .irem, 1), (25, .ireturn, 1)]
theorem dk_X12_draw : dkL cX12_draw ii_X12_draw = true := by decide +kernel
abbrev ii_X12_go : List (Nat × Instr × Nat) := [(0, .aload_n 0, 1), (1, .getfield 100, 3), (4, .istore_n 1, 1), (5, .iconst 0, 1), (6, .istore_n 2, 1), (7, .aload_n 0, 1), (8, .getfield 55, 3), (11, .iconst 0, 1), (12, .iload_n 1, 1), (13, .iastore, 1), (14, .aload_n 0, 1), (15, .aload_n 0, 1), (16, .getfield 70, 3), (19, .putfield 51, 3), (22, .iconst 0, 1), (23, .istore_n 3, 1), (24, .iload_n 3, 1), (25, .aload_n 0, 1), (26, .getfield 70, 3), (29, .if_icmp .ge 173, 3), (32, .aload_n 0, 1), (33, .bipush 10, 2), (35, .invokevirtual 141, 3), (38, .istore 4, 2), (40, .iconst 0, 1), (41, .istore 5, 2), (43, .iconst 0, 1), (44, .istore 7, 2), (46, .aload_n 0, 1), (47, .getfield 32, 3), (50, .iload_n 1, 1), (51, .aaload, 1), (52, .iconst 0, 1), (53, .iaload, 1), (54, .istore 8, 2), (56, .iload 8, 2), (58, .iload 4, 2), (60, .if_icmp .gt 23, 3), (63, .iinc 5 1, 3), (66, .iload 8, 2), (68, .aload_n 0, 1), (69, .getfield 32, 3), (72, .iload_n 1, 1), (73, .aaload, 1), (74, .iload 5, 2), (76, .iaload, 1), (77, .iadd, 1), (78, .istore 8, 2), (80, .goto (-24), 3), (83, .aload_n 0, 1), (84, .bipush 100, 2), (86, .invokevirtual 141, 3), (89, .istore 6, 2), (91, .aload_n 0, 1), (92, .getfield 40, 3), (95, .iload_n 1, 1), (96, .aaload, 1), (97, .iload 5, 2), (99, .aaload, 1), (100, .aload_n 0, 1), (101, .getfield 43, 3), (104, .iload_n 1, 1), (105, .aaload, 1), (106, .iload 5, 2), (108, .aaload, 1), (109, .iconst 0, 1), (110, .iaload, 1), (111, .iaload, 1), (112, .istore 8, 2), (114, .iload 8, 2), (116, .iload 6, 2), (118, .if_icmp .gt 36, 3), (121, .iinc 7 1, 3), (124, .iload 8, 2), (126, .aload_n 0, 1), (127, .getfield 40, 3), (130, .iload_n 1, 1), (131, .aaload, 1), (132, .iload 5, 2), (134, .aaload, 1), (135, .aload_n 0, 1), (136, .getfield 43, 3), (139, .iload_n 1, 1), (140, .aaload, 1), (141, .iload 5, 2), (143, .aaload, 1), (144, .iload 7, 2), (146, .iaload, 1), (147, .iaload, 1), (148, .iadd, 1), (149, .istore 8, 2), (151, .goto (-37), 3), (154, .iload_n 2, 1), (155, .aload_n 0, 1), (156, .getfield 29, 3), (159, .iload_n 1, 1), (160, .aaload, 1), (161, .iload 5, 2), (163, .iaload, 1), (164, .iadd, 1), (165, .istore_n 2, 1), (166, .aload_n 0, 1), (167, .getfield 58, 3), (170, .iload_n 3, 1), (171, .iload 5, 2), (173, .iastore, 1), (174, .aload_n 0, 1), (175, .getfield 43, 3), (178, .iload_n 1, 1), (179, .aaload, 1), (180, .iload 5, 2), (182, .aaload, 1), (183, .iload 7, 2), (185, .iaload, 1), (186, .istore_n 1, 1), (187, .aload_n 0, 1), (188, .getfield 55, 3), (191, .iload_n 3, 1), (192, .iconst 1, 1), (193, .iadd, 1), (194, .iload_n 1, 1), (195, .iastore, 1), (196, .iinc 3 1, 3), (199, .goto (-175), 3), (202, .iload_n 2, 1), (203, .ireturn, 1)]
theorem dk_X12_go : dkL cX12_go ii_X12_go = true := by decide +kernel
abbrev ii_X13_init : List (Nat × Instr × Nat) := [(0, .aload_n 0, 1), (1, .invokespecial 1, 3), (4, .aload_n 0, 1), (5, .aload_n 1, 1), (6, .putfield 7, 3), (9, .return_, 1)]
theorem dk_X13_init : dkL cX13_init ii_X13_init = true := by decide +kernel
abbrev ii_X13_next : List (Nat × Instr × Nat) := [(0, .aload_n 0, 1), (1, .getfield 13, 3), (4, .aload_n 0, 1), (5, .getfield 7, 3), (8, .arraylength, 1), (9, .if_icmp .ge 18, 3), (12, .aload_n 0, 1), (13, .getfield 7, 3), (16, .aload_n 0, 1), (17, .getfield 13, 3), (20, .iaload, 1), (21, .ldc 17, 2), (23, .iand, 1), (24, .goto 4, 3), (27, .iconst 0, 1), (28, .istore_n 3, 1), (29, .aload_n 0, 1), (30, .dup, 1), (31, .getfield 13, 3), (34, .iconst 1, 1), (35, .iadd, 1), (36, .putfield 13, 3), (39, .iload_n 1, 1), (40, .iload_n 3, 1), (41, .iload_n 2, 1), (42, .iload_n 1, 1), (43, .isub, 1), (44, .iconst 1, 1), (45, .iadd, 1), (46, .irem, 1), (47, .iadd, 1), (48, .ireturn, 1)]
theorem dk_X13_next : dkL cX13_next ii_X13_next = true := by decide +kernel
abbrev ii_J5_init_d00df : List (Nat × Instr × Nat) := [(0, .aload_n 0, 1), (1, .invokespecial 3, 3), (4, .getstatic 18, 3), (7, .ifCond .eq 18, 3), (10, .aload_n 0, 1), (11, .iload_n 1, 1), (12, .newarray .byte, 2), (14, .putfield 15, 3), (17, .aload_n 0, 1), (18, .iconst 0, 1), (19, .putfield 22, 3), (22, .goto 16, 3), (25, .aload_n 0, 1), (26, .iload_n 1, 1), (27, .invokestatic 26, 3), (30, .putfield 15, 3), (33, .aload_n 0, 1), (34, .iconst 1, 1), (35, .putfield 22, 3), (38, .return_, 1)]
theorem dk_J5_init_d00df : dkL cJ5_init_d00df ii_J5_init_d00df = true := by decide +kernel
abbrev ii_J5_init_a7421 : List (Nat × Instr × Nat) := [(0, .aload_n 0, 1), (1, .invokespecial 3, 3), (4, .aload_n 1, 1), (5, .invokevirtual 32, 3), (8, .istore_n 2, 1), (9, .iload_n 2, 1), (10, .ldc 38, 2), (12, .if_icmp .ge 10, 3), (15, .iload_n 2, 1), (16, .bipush 16, 2), (18, .iadd, 1), (19, .goto 5, 3), (22, .ldc 39, 2), (24, .istore_n 3, 1), (25, .aload_n 1, 1), (26, .invokevirtual 40, 3), (29, .istore 4, 2), (31, .aload_n 0, 1), (32, .iload 4, 2), (34, .putfield 22, 3), (37, .aload_n 0, 1), (38, .iload 4, 2), (40, .ifCond .ne 9, 3), (43, .iload_n 3, 1), (44, .newarray .byte, 2), (46, .goto 7, 3), (49, .iload_n 3, 1), (50, .invokestatic 26, 3), (53, .putfield 15, 3), (56, .aload_n 0, 1), (57, .aload_n 1, 1), (58, .invokevirtual 43, 3), (61, .pop, 1), (62, .return_, 1)]
theorem dk_J5_init_a7421 : dkL cJ5_init_a7421 ii_J5_init_a7421 = true := by decide +kernel
abbrev ii_J5_length_8abf5 : List (Nat × Instr × Nat) := [(0, .aload_n 0, 1), (1, .getfield 79, 3), (4, .ireturn, 1)]
theorem dk_J5_length_8abf5 : dkL cJ5_length_8abf5 ii_J5_length_8abf5 = true := by decide +kernel
abbrev ii_J5_ensureCapacityInternal_d00df : List (Nat × Instr × Nat) := [(0, .aload_n 0, 1), (1, .getfield 15, 3), (4, .arraylength, 1), (5, .aload_n 0, 1), (6, .getfield 22, 3), (9, .ishr, 1), (10, .istore_n 2, 1), (11, .iload_n 1, 1), (12, .iload_n 2, 1), (13, .isub, 1), (14, .ifCond .le 24, 3), (17, .aload_n 0, 1), (18, .aload_n 0, 1), (19, .getfield 15, 3), (22, .aload_n 0, 1), (23, .iload_n 1, 1), (24, .invokevirtual 104, 3), (27, .aload_n 0, 1), (28, .getfield 22, 3), (31, .ishl, 1), (32, .invokestatic 108, 3), (35, .putfield 15, 3), (38, .return_, 1)]
theorem dk_J5_ensureCapacityInternal_d00df : dkL cJ5_ensureCapacityInternal_d00df ii_J5_ensureCapacityInternal_d00df = true := by decide +kernel
abbrev ii_J5_newCapacity_0f7a4 : List (Nat × Instr × Nat) := [(0, .aload_n 0, 1), (1, .getfield 15, 3), (4, .arraylength, 1), (5, .istore_n 2, 1), (6, .iload_n 1, 1), (7, .aload_n 0, 1), (8, .getfield 22, 3), (11, .ishl, 1), (12, .istore_n 3, 1), (13, .iload_n 3, 1), (14, .iload_n 2, 1), (15, .isub, 1), (16, .istore 4, 2), (18, .iload_n 2, 1), (19, .iload 4, 2), (21, .iload_n 2, 1), (22, .iconst 2, 1), (23, .aload_n 0, 1), (24, .getfield 22, 3), (27, .ishl, 1), (28, .iadd, 1), (29, .invokestatic 114, 3), (32, .istore 5, 2), (34, .iload 5, 2), (36, .ldc 39, 2), (38, .if_icmp .ne 13, 3), (41, .new 120, 3), (44, .dup, 1), (45, .ldc 122, 2), (47, .invokespecial 124, 3), (50, .athrow, 1), (51, .iload 5, 2), (53, .aload_n 0, 1), (54, .getfield 22, 3), (57, .ishr, 1), (58, .ireturn, 1)]
theorem dk_J5_newCapacity_0f7a4 : dkL cJ5_newCapacity_0f7a4 ii_J5_newCapacity_0f7a4 = true := by decide +kernel
abbrev ii_J5_inflate_da8c8 : List (Nat × Instr × Nat) := [(0, .aload_n 0, 1), (1, .invokevirtual 83, 3), (4, .ifCond .ne 4, 3), (7, .return_, 1), (8, .aload_n 0, 1), (9, .getfield 15, 3), (12, .arraylength, 1), (13, .invokestatic 26, 3), (16, .astore_n 1, 1), (17, .aload_n 0, 1), (18, .getfield 15, 3), (21, .iconst 0, 1), (22, .aload_n 1, 1), (23, .iconst 0, 1), (24, .aload_n 0, 1), (25, .getfield 79, 3), (28, .invokestatic 125, 3), (31, .aload_n 0, 1), (32, .aload_n 1, 1), (33, .putfield 15, 3), (36, .aload_n 0, 1), (37, .iconst 1, 1), (38, .putfield 22, 3), (41, .return_, 1)]
theorem dk_J5_inflate_da8c8 : dkL cJ5_inflate_da8c8 ii_J5_inflate_da8c8 = true := by decide +kernel
abbrev ii_J5_append_cf1ce : List (Nat × Instr × Nat) := [(0, .aload_n 1, 1), (1, .ifnonnull 8, 3), (4, .aload_n 0, 1), (5, .invokevirtual 204, 3), (8, .areturn, 1), (9, .aload_n 1, 1), (10, .invokevirtual 32, 3), (13, .istore_n 2, 1), (14, .aload_n 0, 1), (15, .aload_n 0, 1), (16, .getfield 79, 3), (19, .iload_n 2, 1), (20, .iadd, 1), (21, .invokevirtual 100, 3), (24, .aload_n 0, 1), (25, .aload_n 0, 1), (26, .getfield 79, 3), (29, .aload_n 1, 1), (30, .invokevirtual 208, 3), (33, .aload_n 0, 1), (34, .dup, 1), (35, .getfield 79, 3), (38, .iload_n 2, 1), (39, .iadd, 1), (40, .putfield 79, 3), (43, .aload_n 0, 1), (44, .areturn, 1)]
theorem dk_J5_append_cf1ce : dkL cJ5_append_cf1ce ii_J5_append_cf1ce = true := by decide +kernel
abbrev ii_J5_appendNull_278bc : List (Nat × Instr × Nat) := [(0, .aload_n 0, 1), (1, .aload_n 0, 1), (2, .getfield 79, 3), (5, .iconst 4, 1), (6, .iadd, 1), (7, .invokevirtual 100, 3), (10, .aload_n 0, 1), (11, .getfield 79, 3), (14, .istore_n 1, 1), (15, .aload_n 0, 1), (16, .getfield 15, 3), (19, .astore_n 2, 1), (20, .aload_n 0, 1), (21, .invokevirtual 83, 3), (24, .ifCond .eq 38, 3), (27, .aload_n 2, 1), (28, .iload_n 1, 1), (29, .iinc 1 1, 3), (32, .bipush 110, 2), (34, .bastore, 1), (35, .aload_n 2, 1), (36, .iload_n 1, 1), (37, .iinc 1 1, 3), (40, .bipush 117, 2), (42, .bastore, 1), (43, .aload_n 2, 1), (44, .iload_n 1, 1), (45, .iinc 1 1, 3), (48, .bipush 108, 2), (50, .bastore, 1), (51, .aload_n 2, 1), (52, .iload_n 1, 1), (53, .iinc 1 1, 3), (56, .bipush 108, 2), (58, .bastore, 1), (59, .goto 17, 3), (62, .aload_n 2, 1), (63, .iload_n 1, 1), (64, .bipush 110, 2), (66, .bipush 117, 2), (68, .bipush 108, 2), (70, .bipush 108, 2), (72, .invokestatic 226, 3), (75, .istore_n 1, 1), (76, .aload_n 0, 1), (77, .iload_n 1, 1), (78, .putfield 79, 3), (81, .aload_n 0, 1), (82, .areturn, 1)]
theorem dk_J5_appendNull_278bc : dkL cJ5_appendNull_278bc ii_J5_appendNull_278bc = true := by decide +kernel
abbrev ii_J5_append_3fe6f : List (Nat × Instr × Nat) := [(0, .aload_n 0, 1), (1, .aload_n 0, 1), (2, .getfield 79, 3), (5, .iconst 1, 1), (6, .iadd, 1), (7, .invokevirtual 100, 3), (10, .aload_n 0, 1), (11, .invokevirtual 83, 3), (14, .ifCond .eq 31, 3), (17, .iload_n 1, 1), (18, .invokestatic 191, 3), (21, .ifCond .eq 24, 3), (24, .aload_n 0, 1), (25, .getfield 15, 3), (28, .aload_n 0, 1), (29, .dup, 1), (30, .getfield 79, 3), (33, .dup_x1, 1), (34, .iconst 1, 1), (35, .iadd, 1), (36, .putfield 79, 3), (39, .iload_n 1, 1), (40, .i2b, 1), (41, .bastore, 1), (42, .goto 33, 3), (45, .aload_n 0, 1), (46, .invokevirtual 83, 3), (49, .ifCond .eq 7, 3), (52, .aload_n 0, 1), (53, .invokevirtual 195, 3), (56, .aload_n 0, 1), (57, .getfield 15, 3), (60, .aload_n 0, 1), (61, .dup, 1), (62, .getfield 79, 3), (65, .dup_x1, 1), (66, .iconst 1, 1), (67, .iadd, 1), (68, .putfield 79, 3), (71, .iload_n 1, 1), (72, .invokestatic 197, 3), (75, .aload_n 0, 1), (76, .areturn, 1)]
theorem dk_J5_append_3fe6f : dkL cJ5_append_3fe6f ii_J5_append_3fe6f = true := by decide +kernel
abbrev ii_J5_append_c97b9 : List (Nat × Instr × Nat) := [(0, .aload_n 0, 1), (1, .getfield 79, 3), (4, .istore_n 2, 1), (5, .iload_n 2, 1), (6, .iload_n 1, 1), (7, .invokestatic 245, 3), (10, .iadd, 1), (11, .istore_n 3, 1), (12, .aload_n 0, 1), (13, .iload_n 3, 1), (14, .invokevirtual 100, 3), (17, .aload_n 0, 1), (18, .invokevirtual 83, 3), (21, .ifCond .eq 16, 3), (24, .iload_n 1, 1), (25, .iload_n 3, 1), (26, .aload_n 0, 1), (27, .getfield 15, 3), (30, .invokestatic 248, 3), (33, .pop, 1), (34, .goto 14, 3), (37, .iload_n 1, 1), (38, .iload_n 2, 1), (39, .iload_n 3, 1), (40, .aload_n 0, 1), (41, .getfield 15, 3), (44, .invokestatic 251, 3), (47, .pop, 1), (48, .aload_n 0, 1), (49, .iload_n 3, 1), (50, .putfield 79, 3), (53, .aload_n 0, 1), (54, .areturn, 1)]
theorem dk_J5_append_c97b9 : dkL cJ5_append_c97b9 ii_J5_append_c97b9 = true := by decide +kernel
abbrev ii_J5_getValue_6d5f1 : List (Nat × Instr × Nat) := [(0, .aload_n 0, 1), (1, .getfield 15, 3), (4, .areturn, 1)]
theorem dk_J5_getValue_6d5f1 : dkL cJ5_getValue_6d5f1 ii_J5_getValue_6d5f1 = true := by decide +kernel
abbrev ii_J5_isLatin1_aae02 : List (Nat × Instr × Nat) := [(0, .getstatic 18, 3), (3, .ifCond .eq 14, 3), (6, .aload_n 0, 1), (7, .getfield 22, 3), (10, .ifCond .ne 7, 3), (13, .iconst 1, 1), (14, .goto 4, 3), (17, .iconst 0, 1), (18, .ireturn, 1)]
theorem dk_J5_isLatin1_aae02 : dkL cJ5_isLatin1_aae02 ii_J5_isLatin1_aae02 = true := by decide +kernel
abbrev ii_J5_inflateIfNeededFor_a7421 : List (Nat × Instr × Nat) := [(0, .getstatic 18, 3), (3, .ifCond .eq 18, 3), (6, .aload_n 0, 1), (7, .getfield 22, 3), (10, .aload_n 1, 1), (11, .invokevirtual 40, 3), (14, .if_icmp .eq 7, 3), (17, .aload_n 0, 1), (18, .invokevirtual 195, 3), (21, .return_, 1)]
theorem dk_J5_inflateIfNeededFor_a7421 : dkL cJ5_inflateIfNeededFor_a7421 ii_J5_inflateIfNeededFor_a7421 = true := by decide +kernel
abbrev ii_J5_putStringAt_47b60 : List (Nat × Instr × Nat) := [(0, .aload_n 0, 1), (1, .aload_n 2, 1), (2, .invokevirtual 397, 3), (5, .aload_n 2, 1), (6, .aload_n 0, 1), (7, .getfield 15, 3), (10, .iload_n 1, 1), (11, .aload_n 0, 1), (12, .getfield 22, 3), (15, .invokevirtual 399, 3), (18, .return_, 1)]
theorem dk_J5_putStringAt_47b60 : dkL cJ5_putStringAt_47b60 ii_J5_putStringAt_47b60 = true := by decide +kernel
abbrev ii_J6_getChars_ba4f3 : List (Nat × Instr × Nat) := [(0, .iload_n 1, 1), (1, .istore 5, 2), (3, .iload_n 0, 1), (4, .ifCond .ge 7, 3), (7, .iconst 1, 1), (8, .goto 4, 3), (11, .iconst 0, 1), (12, .istore 6, 2), (14, .iload 6, 2), (16, .ifCond .ne 6, 3), (19, .iload_n 0, 1), (20, .ineg, 1), (21, .istore_n 0, 1), (22, .iload_n 0, 1), (23, .bipush (-100), 2), (25, .if_icmp .gt 47, 3), (28, .iload_n 0, 1), (29, .bipush 100, 2), (31, .idiv, 1), (32, .istore_n 3, 1), (33, .iload_n 3, 1), (34, .bipush 100, 2), (36, .imul, 1), (37, .iload_n 0, 1), (38, .isub, 1), (39, .istore 4, 2), (41, .iload_n 3, 1), (42, .istore_n 0, 1), (43, .aload_n 2, 1), (44, .iinc 5 (-1), 3), (47, .iload 5, 2), (49, .getstatic 83, 3), (52, .iload 4, 2), (54, .baload, 1), (55, .bastore, 1), (56, .aload_n 2, 1), (57, .iinc 5 (-1), 3), (60, .iload 5, 2), (62, .getstatic 87, 3), (65, .iload 4, 2), (67, .baload, 1), (68, .bastore, 1), (69, .goto (-47), 3), (72, .aload_n 2, 1), (73, .iinc 5 (-1), 3), (76, .iload 5, 2), (78, .getstatic 83, 3), (81, .iload_n 0, 1), (82, .ineg, 1), (83, .baload, 1), (84, .bastore, 1), (85, .iload_n 0, 1), (86, .bipush (-9), 2), (88, .if_icmp .ge 16, 3), (91, .aload_n 2, 1), (92, .iinc 5 (-1), 3), (95, .iload 5, 2), (97, .getstatic 87, 3), (100, .iload_n 0, 1), (101, .ineg, 1), (102, .baload, 1), (103, .bastore, 1), (104, .iload 6, 2), (106, .ifCond .eq 12, 3), (109, .aload_n 2, 1), (110, .iinc 5 (-1), 3), (113, .iload 5, 2), (115, .bipush 45, 2), (117, .bastore, 1), (118, .iload 5, 2), (120, .ireturn, 1)]
theorem dk_J6_getChars_ba4f3 : dkL cJ6_getChars_ba4f3 ii_J6_getChars_ba4f3 = true := by decide +kernel
abbrev ii_J6_stringSize_0f7a4 : List (Nat × Instr × Nat) := [(0, .iconst 1, 1), (1, .istore_n 1, 1), (2, .iload_n 0, 1), (3, .ifCond .lt 8, 3), (6, .iconst 0, 1), (7, .istore_n 1, 1), (8, .iload_n 0, 1), (9, .ineg, 1), (10, .istore_n 0, 1), (11, .bipush (-10), 2), (13, .istore_n 2, 1), (14, .iconst 1, 1), (15, .istore_n 3, 1), (16, .iload_n 3, 1), (17, .bipush 10, 2), (19, .if_icmp .ge 23, 3), (22, .iload_n 0, 1), (23, .iload_n 2, 1), (24, .if_icmp .le 7, 3), (27, .iload_n 3, 1), (28, .iload_n 1, 1), (29, .iadd, 1), (30, .ireturn, 1), (31, .bipush 10, 2), (33, .iload_n 2, 1), (34, .imul, 1), (35, .istore_n 2, 1), (36, .iinc 3 1, 3), (39, .goto (-23), 3), (42, .bipush 10, 2), (44, .iload_n 1, 1), (45, .iadd, 1), (46, .ireturn, 1)]
theorem dk_J6_stringSize_0f7a4 : dkL cJ6_stringSize_0f7a4 ii_J6_stringSize_0f7a4 = true := by decide +kernel
abbrev ii_J9_abs_0f7a4 : List (Nat × Instr × Nat) := [(0, .iload_n 0, 1), (1, .ifCond .ge 8, 3), (4, .iload_n 0, 1), (5, .ineg, 1), (6, .goto 4, 3), (9, .iload_n 0, 1), (10, .ireturn, 1)]
theorem dk_J9_abs_0f7a4 : dkL cJ9_abs_0f7a4 ii_J9_abs_0f7a4 = true := by decide +kernel
abbrev ii_J9_max_7cf53 : List (Nat × Instr × Nat) := [(0, .iload_n 0, 1), (1, .iload_n 1, 1), (2, .if_icmp .lt 7, 3), (5, .iload_n 0, 1), (6, .goto 4, 3), (9, .iload_n 1, 1), (10, .ireturn, 1)]
theorem dk_J9_max_7cf53 : dkL cJ9_max_7cf53 ii_J9_max_7cf53 = true := by decide +kernel
abbrev ii_J9_max_f86c9 : List (Nat × Instr × Nat) := [(0, .lload_n 0, 1), (1, .lload_n 2, 1), (2, .lcmp, 1), (3, .ifCond .lt 7, 3), (6, .lload_n 0, 1), (7, .goto 4, 3), (10, .lload_n 2, 1), (11, .lreturn, 1)]
theorem dk_J9_max_f86c9 : dkL cJ9_max_f86c9 ii_J9_max_f86c9 = true := by decide +kernel
abbrev ii_J9_min_7cf53 : List (Nat × Instr × Nat) := [(0, .iload_n 0, 1), (1, .iload_n 1, 1), (2, .if_icmp .gt 7, 3), (5, .iload_n 0, 1), (6, .goto 4, 3), (9, .iload_n 1, 1), (10, .ireturn, 1)]
theorem dk_J9_min_7cf53 : dkL cJ9_min_7cf53 ii_J9_min_7cf53 = true := by decide +kernel
abbrev ii_J0_init_81219 : List (Nat × Instr × Nat) := [(0, .aload_n 0, 1), (1, .aload_n 1, 1), (2, .aconst_null, 1), (3, .invokespecial 489, 3), (6, .return_, 1)]
theorem dk_J0_init_81219 : dkL cJ0_init_81219 ii_J0_init_81219 = true := by decide +kernel
abbrev ii_J0_length_8abf5 : List (Nat × Instr × Nat) := [(0, .aload_n 0, 1), (1, .getfield 9, 3), (4, .arraylength, 1), (5, .aload_n 0, 1), (6, .invokevirtual 335, 3), (9, .ishr, 1), (10, .ireturn, 1)]
theorem dk_J0_length_8abf5 : dkL cJ0_length_8abf5 ii_J0_length_8abf5 = true := by decide +kernel
abbrev ii_J0_charAt_5068e : List (Nat × Instr × Nat) := [(0, .aload_n 0, 1), (1, .invokevirtual 492, 3), (4, .ifCond .eq 12, 3), (7, .aload_n 0, 1), (8, .getfield 9, 3), (11, .iload_n 1, 1), (12, .invokestatic 495, 3), (15, .ireturn, 1), (16, .aload_n 0, 1), (17, .getfield 9, 3), (20, .iload_n 1, 1), (21, .invokestatic 498, 3), (24, .ireturn, 1)]
theorem dk_J0_charAt_5068e : dkL cJ0_charAt_5068e ii_J0_charAt_5068e = true := by decide +kernel
abbrev ii_J0_getBytes_840e7 : List (Nat × Instr × Nat) := [(0, .aload_n 0, 1), (1, .invokevirtual 335, 3), (4, .iload_n 3, 1), (5, .if_icmp .ne 23, 3), (8, .aload_n 0, 1), (9, .getfield 9, 3), (12, .iconst 0, 1), (13, .aload_n 1, 1), (14, .iload_n 2, 1), (15, .iload_n 3, 1), (16, .ishl, 1), (17, .aload_n 0, 1), (18, .getfield 9, 3), (21, .arraylength, 1), (22, .invokestatic 212, 3), (25, .goto 18, 3), (28, .aload_n 0, 1), (29, .getfield 9, 3), (32, .iconst 0, 1), (33, .aload_n 1, 1), (34, .iload_n 2, 1), (35, .aload_n 0, 1), (36, .getfield 9, 3), (39, .arraylength, 1), (40, .invokestatic 106, 3), (43, .return_, 1)]
theorem dk_J0_getBytes_840e7 : dkL cJ0_getBytes_840e7 ii_J0_getBytes_840e7 = true := by decide +kernel
abbrev ii_J0_init_db425 : List (Nat × Instr × Nat) := [(0, .aload_n 0, 1), (1, .invokespecial 1, 3), (4, .aload_n 1, 1), (5, .invokevirtual 552, 3), (8, .astore_n 3, 1), (9, .aload_n 1, 1), (10, .invokevirtual 549, 3), (13, .istore 4, 2), (15, .aload_n 1, 1), (16, .invokevirtual 1047, 3), (19, .ifCond .eq 22, 3), (22, .aload_n 0, 1), (23, .iconst 0, 1), (24, .putfield 15, 3), (27, .aload_n 0, 1), (28, .aload_n 3, 1), (29, .iconst 0, 1), (30, .iload 4, 2), (32, .invokestatic 54, 3), (35, .putfield 9, 3), (38, .goto 59, 3), (41, .getstatic 38, 3), (44, .ifCond .eq 35, 3), (47, .aload_n 1, 1), (48, .getfield 1048, 3), (51, .ifCond .eq 28, 3), (54, .aload_n 0, 1), (55, .aload_n 3, 1), (56, .iconst 0, 1), (57, .iload 4, 2), (59, .invokestatic 1051, 3), (62, .putfield 9, 3), (65, .aload_n 0, 1), (66, .aload_n 0, 1), (67, .getfield 9, 3), (70, .iload 4, 2), (72, .invokestatic 47, 3), (75, .putfield 15, 3), (78, .return_, 1), (79, .aload_n 0, 1), (80, .iconst 1, 1), (81, .putfield 15, 3), (84, .aload_n 0, 1), (85, .aload_n 3, 1), (86, .iconst 0, 1), (87, .iload 4, 2), (89, .iconst 1, 1), (90, .ishl, 1), (91, .invokestatic 54, 3), (94, .putfield 9, 3), (97, .return_, 1)]
theorem dk_J0_init_db425 : dkL cJ0_init_db425 ii_J0_init_db425 = true := by decide +kernel
abbrev ii_J0_coder_7d493 : List (Nat × Instr × Nat) := [(0, .getstatic 38, 3), (3, .ifCond .eq 10, 3), (6, .aload_n 0, 1), (7, .getfield 15, 3), (10, .goto 4, 3), (13, .iconst 1, 1), (14, .ireturn, 1)]
theorem dk_J0_coder_7d493 : dkL cJ0_coder_7d493 ii_J0_coder_7d493 = true := by decide +kernel
abbrev ii_J0_isLatin1_aae02 : List (Nat × Instr × Nat) := [(0, .getstatic 38, 3), (3, .ifCond .eq 14, 3), (6, .aload_n 0, 1), (7, .getfield 15, 3), (10, .ifCond .ne 7, 3), (13, .iconst 1, 1), (14, .goto 4, 3), (17, .iconst 0, 1), (18, .ireturn, 1)]
theorem dk_J0_isLatin1_aae02 : dkL cJ0_isLatin1_aae02 ii_J0_isLatin1_aae02 = true := by decide +kernel
abbrev ii_J0_checkIndex_df160 : List (Nat × Instr × Nat) := [(0, .iload_n 0, 1), (1, .iload_n 1, 1), (2, .getstatic 1053, 3), (5, .invokestatic 1059, 3), (8, .pop, 1), (9, .return_, 1)]
theorem dk_J0_checkIndex_df160 : dkL cJ0_checkIndex_df160 ii_J0_checkIndex_df160 = true := by decide +kernel
abbrev ii_J0_checkBoundsOffCount_cabcc : List (Nat × Instr × Nat) := [(0, .iload_n 0, 1), (1, .iload_n 1, 1), (2, .iload_n 2, 1), (3, .getstatic 1053, 3), (6, .invokestatic 1065, 3), (9, .ireturn, 1)]
theorem dk_J0_checkBoundsOffCount_cabcc : dkL cJ0_checkBoundsOffCount_cabcc ii_J0_checkBoundsOffCount_cabcc = true := by decide +kernel
abbrev ii_J0_checkBoundsBeginEnd_23922 : List (Nat × Instr × Nat) := [(0, .iload_n 0, 1), (1, .iload_n 1, 1), (2, .iload_n 2, 1), (3, .getstatic 1053, 3), (6, .invokestatic 1062, 3), (9, .pop, 1), (10, .return_, 1)]
theorem dk_J0_checkBoundsBeginEnd_23922 : dkL cJ0_checkBoundsBeginEnd_23922 ii_J0_checkBoundsBeginEnd_23922 = true := by decide +kernel
abbrev ii_J4_init_da8c8 : List (Nat × Instr × Nat) := [(0, .aload_n 0, 1), (1, .bipush 16, 2), (3, .invokespecial 1, 3), (6, .return_, 1)]
theorem dk_J4_init_da8c8 : dkL cJ4_init_da8c8 ii_J4_init_da8c8 = true := by decide +kernel
abbrev ii_J4_init_a7421 : List (Nat × Instr × Nat) := [(0, .aload_n 0, 1), (1, .aload_n 1, 1), (2, .invokespecial 7, 3), (5, .return_, 1)]
theorem dk_J4_init_a7421 : dkL cJ4_init_a7421 ii_J4_init_a7421 = true := by decide +kernel
abbrev ii_J4_append_15ec4 : List (Nat × Instr × Nat) := [(0, .aload_n 0, 1), (1, .aload_n 1, 1), (2, .invokespecial 29, 3), (5, .pop, 1), (6, .aload_n 0, 1), (7, .areturn, 1)]
theorem dk_J4_append_15ec4 : dkL cJ4_append_15ec4 ii_J4_append_15ec4 = true := by decide +kernel
abbrev ii_J4_append_cf468 : List (Nat × Instr × Nat) := [(0, .aload_n 0, 1), (1, .iload_n 1, 1), (2, .invokespecial 50, 3), (5, .pop, 1), (6, .aload_n 0, 1), (7, .areturn, 1)]
theorem dk_J4_append_cf468 : dkL cJ4_append_cf468 ii_J4_append_cf468 = true := by decide +kernel
abbrev ii_J4_append_bf812 : List (Nat × Instr × Nat) := [(0, .aload_n 0, 1), (1, .iload_n 1, 1), (2, .invokespecial 53, 3), (5, .pop, 1), (6, .aload_n 0, 1), (7, .areturn, 1)]
theorem dk_J4_append_bf812 : dkL cJ4_append_bf812 ii_J4_append_bf812 = true := by decide +kernel
abbrev ii_J4_toString_0e30d : List (Nat × Instr × Nat) := [(0, .new 18, 3), (3, .dup, 1), (4, .aload_n 0, 1), (5, .invokespecial 137, 3), (8, .areturn, 1)]
theorem dk_J4_toString_0e30d : dkL cJ4_toString_0e30d ii_J4_toString_0e30d = true := by decide +kernel
abbrev ii_J4_append_cf1ce : List (Nat × Instr × Nat) := [(0, .aload_n 0, 1), (1, .aload_n 1, 1), (2, .invokevirtual 23, 3), (5, .areturn, 1)]
theorem dk_J4_append_cf1ce : dkL cJ4_append_cf1ce ii_J4_append_cf1ce = true := by decide +kernel
abbrev ii_J4_length_8abf5 : List (Nat × Instr × Nat) := [(0, .aload_n 0, 1), (1, .invokespecial 343, 3), (4, .ireturn, 1)]
theorem dk_J4_length_8abf5 : dkL cJ4_length_8abf5 ii_J4_length_8abf5 = true := by decide +kernel
abbrev ii_J1_charAt_3b067 : List (Nat × Instr × Nat) := [(0, .iload_n 1, 1), (1, .aload_n 0, 1), (2, .arraylength, 1), (3, .invokestatic 9, 3), (6, .aload_n 0, 1), (7, .iload_n 1, 1), (8, .baload, 1), (9, .sipush 255, 3), (12, .iand, 1), (13, .i2c, 1), (14, .ireturn, 1)]
theorem dk_J1_charAt_3b067 : dkL cJ1_charAt_3b067 ii_J1_charAt_3b067 = true := by decide +kernel
abbrev ii_J1_canEncode_fc78d : List (Nat × Instr × Nat) := [(0, .iload_n 0, 1), (1, .sipush 255, 3), (4, .if_icmp .gt 7, 3), (7, .iconst 1, 1), (8, .goto 4, 3), (11, .iconst 0, 1), (12, .ireturn, 1)]
theorem dk_J1_canEncode_fc78d : dkL cJ1_canEncode_fc78d ii_J1_canEncode_fc78d = true := by decide +kernel
abbrev ii_J1_inflate_0e8fd : List (Nat × Instr × Nat) := [(0, .aload_n 0, 1), (1, .iload_n 1, 1), (2, .aload_n 2, 1), (3, .iload_n 3, 1), (4, .iload 4, 2), (6, .invokestatic 240, 3), (9, .return_, 1)]
theorem dk_J1_inflate_0e8fd : dkL cJ1_inflate_0e8fd ii_J1_inflate_0e8fd = true := by decide +kernel
abbrev ii_J2_newBytesFor_77867 : List (Nat × Instr × Nat) := [(0, .iload_n 0, 1), (1, .invokestatic 11, 3), (4, .newarray .byte, 2), (6, .areturn, 1)]
theorem dk_J2_newBytesFor_77867 : dkL cJ2_newBytesFor_77867 ii_J2_newBytesFor_77867 = true := by decide +kernel
abbrev ii_J2_newBytesLength_0f7a4 : List (Nat × Instr × Nat) := [(0, .iload_n 0, 1), (1, .ifCond .ge 11, 3), (4, .new 17, 3), (7, .dup, 1), (8, .invokespecial 19, 3), (11, .athrow, 1), (12, .iload_n 0, 1), (13, .ldc 20, 2), (15, .if_icmp .lt 40, 3), (18, .new 21, 3), (21, .dup, 1), (22, .new 23, 3), (25, .dup, 1), (26, .invokespecial 25, 3), (29, .ldc 26, 2), (31, .invokevirtual 28, 3), (34, .iload_n 0, 1), (35, .invokevirtual 32, 3), (38, .ldc 35, 2), (40, .invokevirtual 28, 3), (43, .ldc 20, 2), (45, .invokevirtual 32, 3), (48, .invokevirtual 37, 3), (51, .invokespecial 41, 3), (54, .athrow, 1), (55, .iload_n 0, 1), (56, .iconst 1, 1), (57, .ishl, 1), (58, .ireturn, 1)]
theorem dk_J2_newBytesLength_0f7a4 : dkL cJ2_newBytesLength_0f7a4 ii_J2_newBytesLength_0f7a4 = true := by decide +kernel
abbrev ii_J2_putChar_b72d1 : List (Nat × Instr × Nat) := [(0, .getstatic 44, 3), (3, .ifCond .ne 25, 3), (6, .iload_n 1, 1), (7, .ifCond .lt 11, 3), (10, .iload_n 1, 1), (11, .aload_n 0, 1), (12, .invokestatic 48, 3), (15, .if_icmp .lt 13, 3), (18, .new 52, 3), (21, .dup, 1), (22, .ldc 54, 2), (24, .invokespecial 56, 3), (27, .athrow, 1), (28, .iload_n 1, 1), (29, .iconst 1, 1), (30, .ishl, 1), (31, .istore_n 1, 1), (32, .aload_n 0, 1), (33, .iload_n 1, 1), (34, .iinc 1 1, 3), (37, .iload_n 2, 1), (38, .getstatic 59, 3), (41, .ishr, 1), (42, .i2b, 1), (43, .bastore, 1), (44, .aload_n 0, 1), (45, .iload_n 1, 1), (46, .iload_n 2, 1), (47, .getstatic 63, 3), (50, .ishr, 1), (51, .i2b, 1), (52, .bastore, 1), (53, .return_, 1)]
theorem dk_J2_putChar_b72d1 : dkL cJ2_putChar_b72d1 ii_J2_putChar_b72d1 = true := by decide +kernel
abbrev ii_J2_getChar_3b067 : List (Nat × Instr × Nat) := [(0, .getstatic 44, 3), (3, .ifCond .ne 25, 3), (6, .iload_n 1, 1), (7, .ifCond .lt 11, 3), (10, .iload_n 1, 1), (11, .aload_n 0, 1), (12, .invokestatic 48, 3), (15, .if_icmp .lt 13, 3), (18, .new 52, 3), (21, .dup, 1), (22, .ldc 54, 2), (24, .invokespecial 56, 3), (27, .athrow, 1), (28, .iload_n 1, 1), (29, .iconst 1, 1), (30, .ishl, 1), (31, .istore_n 1, 1), (32, .aload_n 0, 1), (33, .iload_n 1, 1), (34, .iinc 1 1, 3), (37, .baload, 1), (38, .sipush 255, 3), (41, .iand, 1), (42, .getstatic 59, 3), (45, .ishl, 1), (46, .aload_n 0, 1), (47, .iload_n 1, 1), (48, .baload, 1), (49, .sipush 255, 3), (52, .iand, 1), (53, .getstatic 63, 3), (56, .ishl, 1), (57, .ior, 1), (58, .i2c, 1), (59, .ireturn, 1)]
theorem dk_J2_getChar_3b067 : dkL cJ2_getChar_3b067 ii_J2_getChar_3b067 = true := by decide +kernel
abbrev ii_J2_length_9d52b : List (Nat × Instr × Nat) := [(0, .aload_n 0, 1), (1, .arraylength, 1), (2, .iconst 1, 1), (3, .ishr, 1), (4, .ireturn, 1)]
theorem dk_J2_length_9d52b : dkL cJ2_length_9d52b ii_J2_length_9d52b = true := by decide +kernel
abbrev ii_J2_coderFromArrayLen_85cad : List (Nat × Instr × Nat) := [(0, .iload_n 1, 1), (1, .aload_n 0, 1), (2, .arraylength, 1), (3, .isub, 1), (4, .bipush 31, 2), (6, .iushr, 1), (7, .i2b, 1), (8, .ireturn, 1)]
theorem dk_J2_coderFromArrayLen_85cad : dkL cJ2_coderFromArrayLen_85cad ii_J2_coderFromArrayLen_85cad = true := by decide +kernel
abbrev ii_J2_compress_39247 : List (Nat × Instr × Nat) := [(0, .iload_n 2, 1), (1, .newarray .byte, 2), (3, .astore_n 3, 1), (4, .aload_n 0, 1), (5, .iload_n 1, 1), (6, .aload_n 3, 1), (7, .iconst 0, 1), (8, .iload_n 2, 1), (9, .invokestatic 123, 3), (12, .istore 4, 2), (14, .iload 4, 2), (16, .iload_n 2, 1), (17, .if_icmp .eq 47, 3), (20, .aload_n 0, 1), (21, .iload_n 1, 1), (22, .iconst 1, 1), (23, .ishl, 1), (24, .iload_n 1, 1), (25, .iload_n 2, 1), (26, .iadd, 1), (27, .invokestatic 11, 3), (30, .invokestatic 126, 3), (33, .astore 5, 2), (35, .aload 5, 2), (37, .iload 4, 2), (39, .invokestatic 71, 3), (42, .sipush 255, 3), (45, .if_icmp .gt 16, 3), (48, .aload 5, 2), (50, .iconst 0, 1), (51, .aload_n 3, 1), (52, .iconst 0, 1), (53, .iload_n 2, 1), (54, .invokestatic 123, 3), (57, .iload_n 2, 1), (58, .if_icmp .eq 6, 3), (61, .aload 5, 2), (63, .areturn, 1), (64, .aload_n 3, 1), (65, .areturn, 1)]
theorem dk_J2_compress_39247 : dkL cJ2_compress_39247 ii_J2_compress_39247 = true := by decide +kernel
abbrev ii_J2_compress_5af95 : List (Nat × Instr × Nat) := [(0, .iload_n 1, 1), (1, .iload 4, 2), (3, .aload_n 0, 1), (4, .invokestatic 173, 3), (7, .iconst 0, 1), (8, .istore 5, 2), (10, .iload 5, 2), (12, .iload 4, 2), (14, .if_icmp .ge 39, 3), (17, .aload_n 0, 1), (18, .iload_n 1, 1), (19, .invokestatic 71, 3), (22, .istore 6, 2), (24, .iload 6, 2), (26, .sipush 255, 3), (29, .if_icmp .le 6, 3), (32, .iload 5, 2), (34, .ireturn, 1), (35, .aload_n 2, 1), (36, .iload_n 3, 1), (37, .iload 6, 2), (39, .i2b, 1), (40, .bastore, 1), (41, .iinc 1 1, 3), (44, .iinc 3 1, 3), (47, .iinc 5 1, 3), (50, .goto (-40), 3), (53, .iload 4, 2), (55, .ireturn, 1)]
theorem dk_J2_compress_5af95 : dkL cJ2_compress_5af95 ii_J2_compress_5af95 = true := by decide +kernel
abbrev ii_J2_putCharSB_b72d1 : List (Nat × Instr × Nat) := [(0, .iload_n 1, 1), (1, .aload_n 0, 1), (2, .invokestatic 67, 3), (5, .aload_n 0, 1), (6, .iload_n 1, 1), (7, .iload_n 2, 1), (8, .invokestatic 111, 3), (11, .return_, 1)]
theorem dk_J2_putCharSB_b72d1 : dkL cJ2_putCharSB_b72d1 ii_J2_putCharSB_b72d1 = true := by decide +kernel
abbrev ii_J2_getChars_46870 : List (Nat × Instr × Nat) := [(0, .iload_n 1, 1), (1, .iload_n 2, 1), (2, .aload_n 3, 1), (3, .invokestatic 96, 3), (6, .iload_n 0, 1), (7, .iload_n 2, 1), (8, .aload_n 3, 1), (9, .invokestatic 393, 3), (12, .istore 4, 2), (14, .getstatic 44, 3), (17, .ifCond .ne 17, 3), (20, .iload_n 1, 1), (21, .iload 4, 2), (23, .if_icmp .eq 11, 3), (26, .new 52, 3), (29, .dup, 1), (30, .invokespecial 66, 3), (33, .athrow, 1), (34, .iload 4, 2), (36, .ireturn, 1)]
theorem dk_J2_getChars_46870 : dkL cJ2_getChars_46870 ii_J2_getChars_46870 = true := by decide +kernel
abbrev ii_J2_putCharsAt_cd4e5 : List (Nat × Instr × Nat) := [(0, .iload_n 1, 1), (1, .iconst 4, 1), (2, .iadd, 1), (3, .istore 6, 2), (5, .iload_n 1, 1), (6, .iload 6, 2), (8, .aload_n 0, 1), (9, .invokestatic 96, 3), (12, .aload_n 0, 1), (13, .iload_n 1, 1), (14, .iinc 1 1, 3), (17, .iload_n 2, 1), (18, .invokestatic 111, 3), (21, .aload_n 0, 1), (22, .iload_n 1, 1), (23, .iinc 1 1, 3), (26, .iload_n 3, 1), (27, .invokestatic 111, 3), (30, .aload_n 0, 1), (31, .iload_n 1, 1), (32, .iinc 1 1, 3), (35, .iload 4, 2), (37, .invokestatic 111, 3), (40, .aload_n 0, 1), (41, .iload_n 1, 1), (42, .iinc 1 1, 3), (45, .iload 5, 2), (47, .invokestatic 111, 3), (50, .getstatic 44, 3), (53, .ifCond .ne 17, 3), (56, .iload_n 1, 1), (57, .iload 6, 2), (59, .if_icmp .eq 11, 3), (62, .new 52, 3), (65, .dup, 1), (66, .invokespecial 66, 3), (69, .athrow, 1), (70, .iload 6, 2), (72, .ireturn, 1)]
theorem dk_J2_putCharsAt_cd4e5 : dkL cJ2_putCharsAt_cd4e5 ii_J2_putCharsAt_cd4e5 = true := by decide +kernel
abbrev ii_J2_charAt_3b067 : List (Nat × Instr × Nat) := [(0, .iload_n 1, 1), (1, .aload_n 0, 1), (2, .invokestatic 67, 3), (5, .aload_n 0, 1), (6, .iload_n 1, 1), (7, .invokestatic 71, 3), (10, .ireturn, 1)]
theorem dk_J2_charAt_3b067 : dkL cJ2_charAt_3b067 ii_J2_charAt_3b067 = true := by decide +kernel
abbrev ii_J2_inflate_0e8fd : List (Nat × Instr × Nat) := [(0, .iload_n 3, 1), (1, .iload 4, 2), (3, .aload_n 2, 1), (4, .invokestatic 173, 3), (7, .iconst 0, 1), (8, .istore 5, 2), (10, .iload 5, 2), (12, .iload 4, 2), (14, .if_icmp .ge 27, 3), (17, .aload_n 2, 1), (18, .iload_n 3, 1), (19, .iinc 3 1, 3), (22, .aload_n 0, 1), (23, .iload_n 1, 1), (24, .iinc 1 1, 3), (27, .baload, 1), (28, .sipush 255, 3), (31, .iand, 1), (32, .invokestatic 111, 3), (35, .iinc 5 1, 3), (38, .goto (-28), 3), (41, .return_, 1)]
theorem dk_J2_inflate_0e8fd : dkL cJ2_inflate_0e8fd ii_J2_inflate_0e8fd = true := by decide +kernel
abbrev ii_J2_getChars_ba4f3 : List (Nat × Instr × Nat) := [(0, .iload_n 1, 1), (1, .istore 5, 2), (3, .iload_n 0, 1), (4, .ifCond .ge 7, 3), (7, .iconst 1, 1), (8, .goto 4, 3), (11, .iconst 0, 1), (12, .istore 6, 2), (14, .iload 6, 2), (16, .ifCond .ne 6, 3), (19, .iload_n 0, 1), (20, .ineg, 1), (21, .istore_n 0, 1), (22, .iload_n 0, 1), (23, .bipush (-100), 2), (25, .if_icmp .gt 51, 3), (28, .iload_n 0, 1), (29, .bipush 100, 2), (31, .idiv, 1), (32, .istore_n 3, 1), (33, .iload_n 3, 1), (34, .bipush 100, 2), (36, .imul, 1), (37, .iload_n 0, 1), (38, .isub, 1), (39, .istore 4, 2), (41, .iload_n 3, 1), (42, .istore_n 0, 1), (43, .aload_n 2, 1), (44, .iinc 5 (-1), 3), (47, .iload 5, 2), (49, .getstatic 403, 3), (52, .iload 4, 2), (54, .baload, 1), (55, .invokestatic 111, 3), (58, .aload_n 2, 1), (59, .iinc 5 (-1), 3), (62, .iload 5, 2), (64, .getstatic 407, 3), (67, .iload 4, 2), (69, .baload, 1), (70, .invokestatic 111, 3), (73, .goto (-51), 3), (76, .aload_n 2, 1), (77, .iinc 5 (-1), 3), (80, .iload 5, 2), (82, .getstatic 403, 3), (85, .iload_n 0, 1), (86, .ineg, 1), (87, .baload, 1), (88, .invokestatic 111, 3), (91, .iload_n 0, 1), (92, .bipush (-9), 2), (94, .if_icmp .ge 18, 3), (97, .aload_n 2, 1), (98, .iinc 5 (-1), 3), (101, .iload 5, 2), (103, .getstatic 407, 3), (106, .iload_n 0, 1), (107, .ineg, 1), (108, .baload, 1), (109, .invokestatic 111, 3), (112, .iload 6, 2), (114, .ifCond .eq 14, 3), (117, .aload_n 2, 1), (118, .iinc 5 (-1), 3), (121, .iload 5, 2), (123, .bipush 45, 2), (125, .invokestatic 111, 3), (128, .iload 5, 2), (130, .ireturn, 1)]
theorem dk_J2_getChars_ba4f3 : dkL cJ2_getChars_ba4f3 ii_J2_getChars_ba4f3 = true := by decide +kernel
abbrev ii_J2_checkIndex_2214a : List (Nat × Instr × Nat) := [(0, .iload_n 0, 1), (1, .aload_n 1, 1), (2, .invokestatic 48, 3), (5, .invokestatic 414, 3), (8, .return_, 1)]
theorem dk_J2_checkIndex_2214a : dkL cJ2_checkIndex_2214a ii_J2_checkIndex_2214a = true := by decide +kernel
abbrev ii_J2_checkBoundsBeginEnd_d044e : List (Nat × Instr × Nat) := [(0, .iload_n 0, 1), (1, .iload_n 1, 1), (2, .aload_n 2, 1), (3, .invokestatic 48, 3), (6, .invokestatic 241, 3), (9, .return_, 1)]
theorem dk_J2_checkBoundsBeginEnd_d044e : dkL cJ2_checkBoundsBeginEnd_d044e ii_J2_checkBoundsBeginEnd_d044e = true := by decide +kernel
abbrev ii_J2_checkBoundsOffCount_d044e : List (Nat × Instr × Nat) := [(0, .iload_n 0, 1), (1, .iload_n 1, 1), (2, .aload_n 2, 1), (3, .invokestatic 48, 3), (6, .invokestatic 419, 3), (9, .pop, 1), (10, .return_, 1)]
theorem dk_J2_checkBoundsOffCount_d044e : dkL cJ2_checkBoundsOffCount_d044e ii_J2_checkBoundsOffCount_d044e = true := by decide +kernel
abbrev ii_J7_fill_d0a16 : List (Nat × Instr × Nat) := [(0, .iconst 0, 1), (1, .istore_n 3, 1), (2, .aload_n 0, 1), (3, .arraylength, 1), (4, .istore 4, 2), (6, .iload_n 3, 1), (7, .iload 4, 2), (9, .if_icmp .ge 13, 3), (12, .aload_n 0, 1), (13, .iload_n 3, 1), (14, .lload_n 1, 1), (15, .lastore, 1), (16, .iinc 3 1, 3), (19, .goto (-13), 3), (22, .return_, 1)]
theorem dk_J7_fill_d0a16 : dkL cJ7_fill_d0a16 ii_J7_fill_d0a16 = true := by decide +kernel
abbrev ii_J7_fill_53178 : List (Nat × Instr × Nat) := [(0, .iconst 0, 1), (1, .istore_n 2, 1), (2, .aload_n 0, 1), (3, .arraylength, 1), (4, .istore_n 3, 1), (5, .iload_n 2, 1), (6, .iload_n 3, 1), (7, .if_icmp .ge 13, 3), (10, .aload_n 0, 1), (11, .iload_n 2, 1), (12, .iload_n 1, 1), (13, .iastore, 1), (14, .iinc 2 1, 3), (17, .goto (-12), 3), (20, .return_, 1)]
theorem dk_J7_fill_53178 : dkL cJ7_fill_53178 ii_J7_fill_53178 = true := by decide +kernel
abbrev ii_J7_copyOf_9075b : List (Nat × Instr × Nat) := [(0, .iload_n 1, 1), (1, .aload_n 0, 1), (2, .arraylength, 1), (3, .if_icmp .ne 11, 3), (6, .aload_n 0, 1), (7, .invokevirtual 310, 3), (10, .checkcast 311, 3), (13, .areturn, 1), (14, .iload_n 1, 1), (15, .newarray .byte, 2), (17, .astore_n 2, 1), (18, .aload_n 0, 1), (19, .iconst 0, 1), (20, .aload_n 2, 1), (21, .iconst 0, 1), (22, .aload_n 0, 1), (23, .arraylength, 1), (24, .iload_n 1, 1), (25, .invokestatic 304, 3), (28, .invokestatic 150, 3), (31, .aload_n 2, 1), (32, .areturn, 1)]
theorem dk_J7_copyOf_9075b : dkL cJ7_copyOf_9075b ii_J7_copyOf_9075b = true := by decide +kernel
abbrev ii_J7_checkLength_df160 : List (Nat × Instr × Nat) := [(0, .iload_n 1, 1), (1, .iload_n 0, 1), (2, .if_icmp .ge 35, 3), (5, .new 43, 3), (8, .dup, 1), (9, .new 45, 3), (12, .dup, 1), (13, .invokespecial 47, 3), (16, .iload_n 0, 1), (17, .invokevirtual 54, 3), (20, .ldc_w 337, 3), (23, .invokevirtual 50, 3), (26, .iload_n 1, 1), (27, .invokevirtual 54, 3), (30, .invokevirtual 61, 3), (33, .invokespecial 65, 3), (36, .athrow, 1), (37, .return_, 1)]
theorem dk_J7_checkLength_df160 : dkL cJ7_checkLength_df160 ii_J7_checkLength_df160 = true := by decide +kernel
abbrev ii_J7_copyOfRange_39247 : List (Nat × Instr × Nat) := [(0, .iload_n 1, 1), (1, .ifCond .ne 9, 3), (4, .iload_n 2, 1), (5, .aload_n 0, 1), (6, .arraylength, 1), (7, .if_icmp .eq 10, 3), (10, .aload_n 0, 1), (11, .iload_n 1, 1), (12, .iload_n 2, 1), (13, .invokestatic 339, 3), (16, .areturn, 1), (17, .aload_n 0, 1), (18, .invokevirtual 310, 3), (21, .checkcast 311, 3), (24, .areturn, 1)]
theorem dk_J7_copyOfRange_39247 : dkL cJ7_copyOfRange_39247 ii_J7_copyOfRange_39247 = true := by decide +kernel
abbrev ii_J7_copyOfRangeByte_39247 : List (Nat × Instr × Nat) := [(0, .iload_n 1, 1), (1, .iload_n 2, 1), (2, .invokestatic 343, 3), (5, .iload_n 2, 1), (6, .iload_n 1, 1), (7, .isub, 1), (8, .istore_n 3, 1), (9, .iload_n 3, 1), (10, .newarray .byte, 2), (12, .astore 4, 2), (14, .aload_n 0, 1), (15, .iload_n 1, 1), (16, .aload 4, 2), (18, .iconst 0, 1), (19, .aload_n 0, 1), (20, .arraylength, 1), (21, .iload_n 1, 1), (22, .isub, 1), (23, .iload_n 3, 1), (24, .invokestatic 304, 3), (27, .invokestatic 150, 3), (30, .aload 4, 2), (32, .areturn, 1)]
theorem dk_J7_copyOfRangeByte_39247 : dkL cJ7_copyOfRangeByte_39247 ii_J7_copyOfRangeByte_39247 = true := by decide +kernel
abbrev ii_J8_newLength_cabcc : List (Nat × Instr × Nat) := [(0, .iload_n 0, 1), (1, .iload_n 1, 1), (2, .iload_n 2, 1), (3, .invokestatic 194, 3), (6, .iadd, 1), (7, .istore_n 3, 1), (8, .iconst 0, 1), (9, .iload_n 3, 1), (10, .if_icmp .ge 11, 3), (13, .iload_n 3, 1), (14, .ldc 200, 2), (16, .if_icmp .gt 5, 3), (19, .iload_n 3, 1), (20, .ireturn, 1), (21, .iload_n 0, 1), (22, .iload_n 1, 1), (23, .invokestatic 201, 3), (26, .ireturn, 1)]
theorem dk_J8_newLength_cabcc : dkL cJ8_newLength_cabcc ii_J8_newLength_cabcc = true := by decide +kernel
abbrev ii_J8_hugeLength_7cf53 : List (Nat × Instr × Nat) := [(0, .iload_n 0, 1), (1, .iload_n 1, 1), (2, .iadd, 1), (3, .istore_n 2, 1), (4, .iload_n 2, 1), (5, .ifCond .ge 44, 3), (8, .new 204, 3), (11, .dup, 1), (12, .new 89, 3), (15, .dup, 1), (16, .invokespecial 91, 3), (19, .ldc 206, 2), (21, .invokevirtual 94, 3), (24, .iload_n 0, 1), (25, .invokevirtual 98, 3), (28, .ldc 208, 2), (30, .invokevirtual 94, 3), (33, .iload_n 1, 1), (34, .invokevirtual 98, 3), (37, .ldc 210, 2), (39, .invokevirtual 94, 3), (42, .invokevirtual 101, 3), (45, .invokespecial 212, 3), (48, .athrow, 1), (49, .iload_n 2, 1), (50, .ldc 200, 2), (52, .if_icmp .gt 6, 3), (55, .ldc 200, 2), (57, .ireturn, 1), (58, .iload_n 2, 1), (59, .ireturn, 1)]
theorem dk_J8_hugeLength_7cf53 : dkL cJ8_hugeLength_7cf53 ii_J8_hugeLength_7cf53 = true := by decide +kernel
abbrev ii_J3_checkIndex_8e157 : List (Nat × Instr × Nat) := [(0, .iload_n 0, 1), (1, .ifCond .lt 8, 3), (4, .iload_n 0, 1), (5, .iload_n 1, 1), (6, .if_icmp .lt 10, 3), (9, .aload_n 2, 1), (10, .iload_n 0, 1), (11, .iload_n 1, 1), (12, .invokestatic 95, 3), (15, .athrow, 1), (16, .iload_n 0, 1), (17, .ireturn, 1)]
theorem dk_J3_checkIndex_8e157 : dkL cJ3_checkIndex_8e157 ii_J3_checkIndex_8e157 = true := by decide +kernel
abbrev ii_J3_checkFromToIndex_8c36e : List (Nat × Instr × Nat) := [(0, .iload_n 0, 1), (1, .ifCond .lt 13, 3), (4, .iload_n 0, 1), (5, .iload_n 1, 1), (6, .if_icmp .gt 8, 3), (9, .iload_n 1, 1), (10, .iload_n 2, 1), (11, .if_icmp .le 11, 3), (14, .aload_n 3, 1), (15, .iload_n 0, 1), (16, .iload_n 1, 1), (17, .iload_n 2, 1), (18, .invokestatic 99, 3), (21, .athrow, 1), (22, .iload_n 0, 1), (23, .ireturn, 1)]
theorem dk_J3_checkFromToIndex_8c36e : dkL cJ3_checkFromToIndex_8c36e ii_J3_checkFromToIndex_8c36e = true := by decide +kernel
abbrev ii_J3_checkFromIndexSize_8c36e : List (Nat × Instr × Nat) := [(0, .iload_n 2, 1), (1, .iload_n 0, 1), (2, .ior, 1), (3, .iload_n 1, 1), (4, .ior, 1), (5, .ifCond .lt 10, 3), (8, .iload_n 1, 1), (9, .iload_n 2, 1), (10, .iload_n 0, 1), (11, .isub, 1), (12, .if_icmp .le 11, 3), (15, .aload_n 3, 1), (16, .iload_n 0, 1), (17, .iload_n 1, 1), (18, .iload_n 2, 1), (19, .invokestatic 103, 3), (22, .athrow, 1), (23, .iload_n 0, 1), (24, .ireturn, 1)]
theorem dk_J3_checkFromIndexSize_8c36e : dkL cJ3_checkFromIndexSize_8c36e ii_J3_checkFromIndexSize_8c36e = true := by decide +kernel
abbrev ii_L_feeds : List (Nat × Instr × Nat) := [(0, .iconst 0, 1), (1, .istore_n 2, 1), (2, .iload_n 2, 1), (3, .aload_n 1, 1), (4, .invokevirtual 7, 3), (7, .if_icmp .ge 97, 3), (10, .iconst 5, 1), (11, .newarray .int, 2), (13, .astore_n 3, 1), (14, .iconst 0, 1), (15, .istore 4, 2), (17, .iload 4, 2), (19, .bipush 20, 2), (21, .if_icmp .ge 49, 3), (24, .aload_n 3, 1), (25, .iload 4, 2), (27, .iconst 4, 1), (28, .idiv, 1), (29, .aload_n 3, 1), (30, .iload 4, 2), (32, .iconst 4, 1), (33, .idiv, 1), (34, .iaload, 1), (35, .bipush 8, 2), (37, .ishl, 1), (38, .iload_n 2, 1), (39, .iload 4, 2), (41, .iadd, 1), (42, .aload_n 1, 1), (43, .invokevirtual 7, 3), (46, .if_icmp .ge 14, 3), (49, .aload_n 1, 1), (50, .iload_n 2, 1), (51, .iload 4, 2), (53, .iadd, 1), (54, .invokevirtual 13, 3), (57, .goto 5, 3), (60, .bipush 32, 2), (62, .ior, 1), (63, .iastore, 1), (64, .iinc 4 1, 3), (67, .goto (-50), 3), (70, .aload_n 0, 1), (71, .aload_n 3, 1), (72, .iconst 0, 1), (73, .iaload, 1), (74, .aload_n 3, 1), (75, .iconst 1, 1), (76, .iaload, 1), (77, .aload_n 3, 1), (78, .iconst 2, 1), (79, .iaload, 1), (80, .aload_n 3, 1), (81, .iconst 3, 1), (82, .iaload, 1), (83, .aload_n 3, 1), (84, .iconst 4, 1), (85, .iaload, 1), (86, .invokevirtual 17, 3), (89, .iload_n 2, 1), (90, .bipush 20, 2), (92, .iadd, 1), (93, .if_icmp .eq 5, 3), (96, .iconst 0, 1), (97, .ireturn, 1), (98, .iinc 2 20, 3), (101, .goto (-99), 3), (104, .iconst 1, 1), (105, .ireturn, 1)]
theorem dk_L_feeds : dkL cL_feeds ii_L_feeds = true := by decide +kernel
abbrev ii_L_tell : List (Nat × Instr × Nat) := [(0, .aload_n 0, 1), (1, .aload_n 1, 1), (2, .invokestatic 23, 3), (5, .ifCond .eq 14, 3), (8, .aload_n 0, 1), (9, .aload_n 1, 1), (10, .invokevirtual 7, 3), (13, .invokevirtual 29, 3), (16, .goto 5, 3), (19, .bipush (-9), 2), (21, .ireturn, 1)]
theorem dk_L_tell : dkL cL_tell ii_L_tell = true := by decide +kernel
abbrev ii_L_calls : List (Nat × Instr × Nat) := [(0, .iload_n 1, 1), (1, .tableswitch 343 0 25 #[119, 127, 137, 147, 154, 161, 175, 182, 191, 198, 205, 212, 220, 227, 237, 244, 251, 258, 269, 275, 301, 309, 316, 322, 329, 336], 119), (120, .aload_n 0, 1), (121, .iload_n 2, 1), (122, .iload_n 3, 1), (123, .invokevirtual 33, 3), (126, .i2l, 1), (127, .lreturn, 1), (128, .aload_n 0, 1), (129, .iload_n 2, 1), (130, .iload_n 3, 1), (131, .iload 4, 2), (133, .invokevirtual 37, 3), (136, .i2l, 1), (137, .lreturn, 1), (138, .aload_n 0, 1), (139, .iload_n 2, 1), (140, .iload_n 3, 1), (141, .iload 4, 2), (143, .invokevirtual 41, 3), (146, .i2l, 1), (147, .lreturn, 1), (148, .aload_n 0, 1), (149, .iload_n 2, 1), (150, .invokevirtual 44, 3), (153, .i2l, 1), (154, .lreturn, 1), (155, .aload_n 0, 1), (156, .iload_n 2, 1), (157, .invokevirtual 47, 3), (160, .i2l, 1), (161, .lreturn, 1), (162, .aload_n 0, 1), (163, .iload_n 2, 1), (164, .invokevirtual 50, 3), (167, .ifCond .eq 7, 3), (170, .lconst 1, 1), (171, .goto 4, 3), (174, .lconst 0, 1), (175, .lreturn, 1), (176, .aload_n 0, 1), (177, .iload_n 2, 1), (178, .iload_n 3, 1), (179, .invokevirtual 54, 3), (182, .lreturn, 1), (183, .aload_n 0, 1), (184, .iload_n 2, 1), (185, .iload_n 3, 1), (186, .iload 4, 2), (188, .invokevirtual 58, 3), (191, .lreturn, 1), (192, .aload_n 0, 1), (193, .iload_n 2, 1), (194, .invokevirtual 62, 3), (197, .i2l, 1), (198, .lreturn, 1), (199, .aload_n 0, 1), (200, .iload_n 2, 1), (201, .invokevirtual 65, 3), (204, .i2l, 1), (205, .lreturn, 1), (206, .aload_n 0, 1), (207, .iload_n 2, 1), (208, .iload_n 3, 1), (209, .invokevirtual 68, 3), (212, .lreturn, 1), (213, .aload_n 0, 1), (214, .iload_n 2, 1), (215, .iload_n 3, 1), (216, .invokevirtual 71, 3), (219, .i2l, 1), (220, .lreturn, 1), (221, .aload_n 0, 1), (222, .iload_n 2, 1), (223, .iload_n 3, 1), (224, .invokevirtual 74, 3), (227, .lreturn, 1), (228, .aload_n 0, 1), (229, .iload_n 2, 1), (230, .iload_n 3, 1), (231, .iload 4, 2), (233, .invokevirtual 77, 3), (236, .i2l, 1), (237, .lreturn, 1), (238, .aload_n 0, 1), (239, .iload_n 2, 1), (240, .invokevirtual 80, 3), (243, .i2l, 1), (244, .lreturn, 1), (245, .aload_n 0, 1), (246, .iload_n 2, 1), (247, .invokevirtual 83, 3), (250, .i2l, 1), (251, .lreturn, 1), (252, .aload_n 0, 1), (253, .iload_n 2, 1), (254, .invokevirtual 86, 3), (257, .i2l, 1), (258, .lreturn, 1), (259, .aload_n 0, 1), (260, .iload_n 2, 1), (261, .iload_n 3, 1), (262, .iload 4, 2), (264, .iconst 0, 1), (265, .invokevirtual 89, 3), (268, .i2l, 1), (269, .lreturn, 1), (270, .aload_n 0, 1), (271, .invokevirtual 93, 3), (274, .i2l, 1), (275, .lreturn, 1), (276, .aload_n 0, 1), (277, .iload_n 2, 1), (278, .iload_n 3, 1), (279, .iload 4, 2), (281, .iconst 1, 1), (282, .if_icmp .ne 7, 3), (285, .iconst 1, 1), (286, .goto 4, 3), (289, .iconst 0, 1), (290, .invokevirtual 96, 3), (293, .ifCond .eq 7, 3), (296, .lconst 1, 1), (297, .goto 4, 3), (300, .lconst 0, 1), (301, .lreturn, 1), (302, .aload_n 0, 1), (303, .iload_n 2, 1), (304, .iload_n 3, 1), (305, .invokevirtual 100, 3), (308, .i2l, 1), (309, .lreturn, 1), (310, .aload_n 0, 1), (311, .iload_n 2, 1), (312, .invokevirtual 103, 3), (315, .i2l, 1), (316, .lreturn, 1), (317, .aload_n 0, 1), (318, .invokevirtual 106, 3), (321, .i2l, 1), (322, .lreturn, 1), (323, .aload_n 0, 1), (324, .iload_n 2, 1), (325, .invokevirtual 109, 3), (328, .i2l, 1), (329, .lreturn, 1), (330, .aload_n 0, 1), (331, .iload_n 2, 1), (332, .invokevirtual 112, 3), (335, .i2l, 1), (336, .lreturn, 1), (337, .aload_n 0, 1), (338, .iload_n 2, 1), (339, .invokevirtual 29, 3), (342, .i2l, 1), (343, .lreturn, 1), (344, .aload_n 0, 1), (345, .invokevirtual 115, 3), (348, .i2l, 1), (349, .lreturn, 1)]
theorem dk_L_calls : dkL cL_calls ii_L_calls = true := by decide +kernel
abbrev ii_L_thrown : List (Nat × Instr × Nat) := [(0, .aload_n 0, 1), (1, .iload_n 1, 1), (2, .iload_n 2, 1), (3, .iload_n 3, 1), (4, .iload 4, 2), (6, .invokestatic 118, 3), (9, .ldc2_w 122, 3), (12, .lcmp, 1), (13, .ifCond .ne 7, 3), (16, .iconst 0, 1), (17, .goto 4, 3), (20, .iconst 0, 1), (21, .ireturn, 1), (22, .astore 5, 2), (24, .iconst 1, 1), (25, .ireturn, 1), (26, .astore 5, 2), (28, .iconst 2, 1), (29, .ireturn, 1), (30, .astore 5, 2), (32, .iconst 3, 1), (33, .ireturn, 1)]
theorem dk_L_thrown : dkL cL_thrown ii_L_thrown = true := by decide +kernel
abbrev ii_L_isLike : List (Nat × Instr × Nat) := [(0, .aload_n 0, 1), (1, .invokevirtual 130, 3), (4, .aload_n 1, 1), (5, .getfield 133, 3), (8, .if_icmp .ne 47, 3), (11, .aload_n 0, 1), (12, .invokevirtual 138, 3), (15, .aload_n 1, 1), (16, .getfield 141, 3), (19, .if_icmp .ne 36, 3), (22, .aload_n 0, 1), (23, .invokevirtual 143, 3), (26, .aload_n 1, 1), (27, .getfield 146, 3), (30, .if_icmp .ne 25, 3), (33, .aload_n 0, 1), (34, .invokevirtual 148, 3), (37, .aload_n 1, 1), (38, .getfield 151, 3), (41, .if_icmp .ne 14, 3), (44, .aload_n 0, 1), (45, .invokevirtual 115, 3), (48, .aload_n 1, 1), (49, .getfield 153, 3), (52, .if_icmp .eq 5, 3), (55, .iconst 0, 1), (56, .ireturn, 1), (57, .iconst 0, 1), (58, .istore_n 2, 1), (59, .iload_n 2, 1), (60, .aload_n 1, 1), (61, .getfield 141, 3), (64, .if_icmp .ge 25, 3), (67, .aload_n 0, 1), (68, .iload_n 2, 1), (69, .invokevirtual 44, 3), (72, .aload_n 1, 1), (73, .getfield 155, 3), (76, .iload_n 2, 1), (77, .iaload, 1), (78, .if_icmp .eq 5, 3), (81, .iconst 0, 1), (82, .ireturn, 1), (83, .iinc 2 1, 3), (86, .goto (-27), 3), (89, .iconst 0, 1), (90, .istore_n 2, 1), (91, .iload_n 2, 1), (92, .aload_n 1, 1), (93, .getfield 133, 3), (96, .if_icmp .ge 96, 3), (99, .aload_n 0, 1), (100, .iload_n 2, 1), (101, .invokevirtual 158, 3), (104, .aload_n 1, 1), (105, .getfield 161, 3), (108, .iload_n 2, 1), (109, .iaload, 1), (110, .if_icmp .eq 5, 3), (113, .iconst 0, 1), (114, .ireturn, 1), (115, .iconst 0, 1), (116, .istore_n 3, 1), (117, .iload_n 3, 1), (118, .aload_n 1, 1), (119, .getfield 161, 3), (122, .iload_n 2, 1), (123, .iaload, 1), (124, .if_icmp .ge 62, 3), (127, .aload_n 0, 1), (128, .iload_n 2, 1), (129, .iload_n 3, 1), (130, .invokevirtual 33, 3), (133, .aload_n 1, 1), (134, .getfield 164, 3), (137, .iload_n 2, 1), (138, .aaload, 1), (139, .iload_n 3, 1), (140, .iaload, 1), (141, .if_icmp .ne 37, 3), (144, .aload_n 0, 1), (145, .iload_n 2, 1), (146, .iload_n 3, 1), (147, .invokevirtual 167, 3), (150, .aload_n 1, 1), (151, .getfield 170, 3), (154, .iload_n 2, 1), (155, .aaload, 1), (156, .iload_n 3, 1), (157, .iaload, 1), (158, .if_icmp .ne 20, 3), (161, .aload_n 0, 1), (162, .iload_n 2, 1), (163, .iload_n 3, 1), (164, .invokevirtual 172, 3), (167, .aload_n 1, 1), (168, .getfield 176, 3), (171, .iload_n 2, 1), (172, .aaload, 1), (173, .iload_n 3, 1), (174, .baload, 1), (175, .if_icmp .eq 5, 3), (178, .iconst 0, 1), (179, .ireturn, 1), (180, .iinc 3 1, 3), (183, .goto (-66), 3), (186, .iinc 2 1, 3), (189, .goto (-98), 3), (192, .iconst 0, 1), (193, .istore_n 2, 1), (194, .iload_n 2, 1), (195, .aload_n 1, 1), (196, .getfield 179, 3), (199, .if_icmp .gt 47, 3), (202, .aload_n 0, 1), (203, .iload_n 2, 1), (204, .invokevirtual 80, 3), (207, .aload_n 1, 1), (208, .getfield 182, 3), (211, .iload_n 2, 1), (212, .iaload, 1), (213, .if_icmp .ne 25, 3), (216, .iload_n 2, 1), (217, .aload_n 1, 1), (218, .getfield 179, 3), (221, .if_icmp .ge 19, 3), (224, .aload_n 0, 1), (225, .iload_n 2, 1), (226, .invokevirtual 185, 3), (229, .aload_n 1, 1), (230, .getfield 188, 3), (233, .iload_n 2, 1), (234, .iaload, 1), (235, .if_icmp .eq 5, 3), (238, .iconst 0, 1), (239, .ireturn, 1), (240, .iinc 2 1, 3), (243, .goto (-49), 3), (246, .aload_n 1, 1), (247, .getfield 179, 3), (250, .ifCond .ge 16, 3), (253, .aload_n 0, 1), (254, .bipush 14, 2), (256, .iconst 0, 1), (257, .iconst 0, 1), (258, .iconst 0, 1), (259, .invokestatic 191, 3), (262, .iconst 1, 1), (263, .if_icmp .ne 7, 3), (266, .iconst 1, 1), (267, .goto 4, 3), (270, .iconst 0, 1), (271, .ireturn, 1)]
theorem dk_L_isLike : dkL cL_isLike ii_L_isLike = true := by decide +kernel
abbrev ii_L_rules : List (Nat × Instr × Nat) := [(0, .iconst 3, 1), (1, .newarray .int, 2), (3, .dup, 1), (4, .iconst 0, 1), (5, .bipush 10, 2), (7, .iastore, 1), (8, .dup, 1), (9, .iconst 1, 1), (10, .iconst 0, 1), (11, .iastore, 1), (12, .dup, 1), (13, .iconst 2, 1), (14, .iconst 0, 1), (15, .iastore, 1), (16, .astore 4, 2), (18, .iconst 0, 1), (19, .istore 5, 2), (21, .iload 5, 2), (23, .iconst 1, 1), (24, .iadd, 1), (25, .aload_n 1, 1), (26, .getfield 161, 3), (29, .iload_n 3, 1), (30, .iaload, 1), (31, .if_icmp .ge 41, 3), (34, .aload 4, 2), (36, .iload 5, 2), (38, .iconst 1, 1), (39, .iadd, 1), (40, .aload_n 2, 1), (41, .iconst 0, 1), (42, .aload 4, 2), (44, .iload 5, 2), (46, .iaload, 1), (47, .invokevirtual 195, 3), (50, .iastore, 1), (51, .aload 4, 2), (53, .iload 5, 2), (55, .dup2, 1), (56, .iaload, 1), (57, .aload 4, 2), (59, .iload 5, 2), (61, .iconst 1, 1), (62, .iadd, 1), (63, .iaload, 1), (64, .isub, 1), (65, .iastore, 1), (66, .iinc 5 1, 3), (69, .goto (-48), 3), (72, .aload_n 1, 1), (73, .getfield 170, 3), (76, .iload_n 3, 1), (77, .aload 4, 2), (79, .aastore, 1), (80, .aload_n 0, 1), (81, .iload_n 3, 1), (82, .aload 4, 2), (84, .iconst 0, 1), (85, .iaload, 1), (86, .aload 4, 2), (88, .iconst 1, 1), (89, .iaload, 1), (90, .aload 4, 2), (92, .iconst 2, 1), (93, .iaload, 1), (94, .invokevirtual 89, 3), (97, .aload_n 0, 1), (98, .invokevirtual 200, 3), (101, .if_icmp .ne 7, 3), (104, .iconst 1, 1), (105, .goto 4, 3), (108, .iconst 0, 1), (109, .ireturn, 1)]
theorem dk_L_rules : dkL cL_rules ii_L_rules = true := by decide +kernel
abbrev ii_L_act_0 : List (Nat × Instr × Nat) := [(0, .aload_n 2, 1), (1, .iconst 0, 1), (2, .bipush 6, 2), (4, .invokevirtual 195, 3), (7, .istore_n 3, 1), (8, .aload_n 2, 1), (9, .iconst 0, 1), (10, .aload_n 1, 1), (11, .getfield 133, 3), (14, .iconst 1, 1), (15, .isub, 1), (16, .invokevirtual 195, 3), (19, .istore 4, 2), (21, .aload_n 2, 1), (22, .iconst 0, 1), (23, .aload_n 1, 1), (24, .getfield 161, 3), (27, .iload 4, 2), (29, .iaload, 1), (30, .iconst 1, 1), (31, .isub, 1), (32, .invokevirtual 195, 3), (35, .istore 5, 2), (37, .iload_n 3, 1), (38, .iconst 2, 1), (39, .if_icmp .ge 12, 3), (42, .aload_n 0, 1), (43, .aload_n 1, 1), (44, .aload_n 2, 1), (45, .iload 4, 2), (47, .invokestatic 203, 3), (50, .ireturn, 1), (51, .iload_n 3, 1), (52, .iconst 2, 1), (53, .if_icmp .ne 71, 3), (56, .aload_n 1, 1), (57, .getfield 141, 3), (60, .ifCond .le 64, 3), (63, .aload_n 2, 1), (64, .iconst 0, 1), (65, .aload_n 1, 1), (66, .getfield 141, 3), (69, .iconst 1, 1), (70, .isub, 1), (71, .invokevirtual 195, 3), (74, .istore 6, 2), (76, .aload_n 1, 1), (77, .getfield 155, 3)]
theorem dk_L_act_0 : dkL cL_act ii_L_act_0 = true := by decide +kernel
abbrev ii_L_act_1 : List (Nat × Instr × Nat) := [(80, .iload 6, 2), (82, .iaload, 1), (83, .istore 7, 2), (85, .aload_n 1, 1), (86, .getfield 155, 3), (89, .iload 6, 2), (91, .aload_n 2, 1), (92, .iconst 0, 1), (93, .sipush 200, 3), (96, .invokevirtual 195, 3), (99, .iastore, 1), (100, .aload_n 0, 1), (101, .iload 6, 2), (103, .aload_n 1, 1), (104, .getfield 155, 3), (107, .iload 6, 2), (109, .iaload, 1), (110, .invokevirtual 100, 3), (113, .iload 7, 2), (115, .if_icmp .ne 7, 3), (118, .iconst 1, 1), (119, .goto 4, 3), (122, .iconst 0, 1), (123, .ireturn, 1), (124, .iload_n 3, 1), (125, .iconst 3, 1), (126, .if_icmp .ne 32, 3), (129, .aload_n 1, 1), (130, .getfield 153, 3), (133, .istore 6, 2), (135, .aload_n 1, 1), (136, .iload 4, 2), (138, .putfield 153, 3), (141, .aload_n 0, 1), (142, .iload 4, 2), (144, .invokevirtual 207, 3), (147, .iload 6, 2), (149, .if_icmp .ne 7, 3), (152, .iconst 1, 1), (153, .goto 4, 3), (156, .iconst 0, 1), (157, .ireturn, 1), (158, .iload_n 3, 1), (159, .iconst 4, 1), (160, .if_icmp .ne 38, 3), (163, .aload_n 1, 1), (164, .getfield 146, 3), (167, .istore 6, 2)]
theorem dk_L_act_1 : dkL cL_act ii_L_act_1 = true := by decide +kernel
abbrev ii_L_act_2 : List (Nat × Instr × Nat) := [(169, .aload_n 1, 1), (170, .aload_n 2, 1), (171, .iconst 1, 1), (172, .iconst 4, 1), (173, .invokevirtual 195, 3), (176, .putfield 146, 3), (179, .aload_n 0, 1), (180, .aload_n 1, 1), (181, .getfield 146, 3), (184, .invokevirtual 103, 3), (187, .iload 6, 2), (189, .if_icmp .ne 7, 3), (192, .iconst 1, 1), (193, .goto 4, 3), (196, .iconst 0, 1), (197, .ireturn, 1), (198, .iload_n 3, 1), (199, .iconst 5, 1), (200, .if_icmp .ne 145, 3), (203, .aload_n 2, 1), (204, .iconst 0, 1), (205, .iconst 1, 1), (206, .invokevirtual 195, 3), (209, .ifCond .ne 7, 3), (212, .iconst 1, 1), (213, .goto 4, 3), (216, .iconst 0, 1), (217, .istore 6, 2), (219, .aload_n 1, 1), (220, .getfield 176, 3), (223, .iload 4, 2), (225, .aaload, 1), (226, .iload 5, 2), (228, .baload, 1), (229, .istore 7, 2), (231, .iload 6, 2), (233, .istore 8, 2), (235, .iconst 0, 1), (236, .istore 9, 2), (238, .iload 9, 2), (240, .aload_n 1, 1), (241, .getfield 161, 3), (244, .iload 4, 2), (246, .iaload, 1), (247, .if_icmp .ge 39, 3), (250, .iload 8, 2), (252, .iload 9, 2), (254, .iload 5, 2)]
theorem dk_L_act_2 : dkL cL_act ii_L_act_2 = true := by decide +kernel
abbrev ii_L_act_3 : List (Nat × Instr × Nat) := [(256, .if_icmp .eq 20, 3), (259, .aload_n 1, 1), (260, .getfield 176, 3), (263, .iload 4, 2), (265, .aaload, 1), (266, .iload 9, 2), (268, .baload, 1), (269, .ifCond .eq 7, 3), (272, .iconst 1, 1), (273, .goto 4, 3), (276, .iconst 0, 1), (277, .ior, 1), (278, .istore 8, 2), (280, .iinc 9 1, 3), (283, .goto (-45), 3), (286, .iload 8, 2), (288, .ifCond .ne 24, 3), (291, .aload_n 0, 1), (292, .bipush 19, 2), (294, .iload 4, 2), (296, .iload 5, 2), (298, .iconst 0, 1), (299, .invokestatic 191, 3), (302, .iconst 3, 1), (303, .if_icmp .ne 7, 3), (306, .iconst 1, 1), (307, .goto 4, 3), (310, .iconst 0, 1), (311, .ireturn, 1), (312, .aload_n 1, 1), (313, .getfield 176, 3), (316, .iload 4, 2), (318, .aaload, 1), (319, .iload 5, 2), (321, .iload 6, 2), (323, .bastore, 1), (324, .aload_n 0, 1), (325, .iload 4, 2), (327, .iload 5, 2), (329, .iload 6, 2), (331, .invokevirtual 96, 3), (334, .iload 7, 2), (336, .if_icmp .ne 7, 3), (339, .iconst 1, 1), (340, .goto 4, 3), (343, .iconst 0, 1), (344, .ireturn, 1), (345, .aload_n 1, 1)]
theorem dk_L_act_3 : dkL cL_act ii_L_act_3 = true := by decide +kernel
abbrev ii_L_act_4 : List (Nat × Instr × Nat) := [(346, .invokevirtual 210, 3), (349, .istore 6, 2), (351, .aload_n 0, 1), (352, .invokevirtual 213, 3), (355, .aload_n 1, 1), (356, .getfield 182, 3), (359, .aload_n 1, 1), (360, .getfield 179, 3), (363, .iaload, 1), (364, .if_icmp .ne 16, 3), (367, .aload_n 0, 1), (368, .invokevirtual 215, 3), (371, .iload 6, 2), (373, .if_icmp .ne 7, 3), (376, .iconst 1, 1), (377, .goto 4, 3), (380, .iconst 0, 1), (381, .ireturn, 1)]
theorem dk_L_act_4 : dkL cL_act ii_L_act_4 = true := by decide +kernel
abbrev ii_L_flows : List (Nat × Instr × Nat) := [(0, .iconst 0, 1), (1, .istore_n 2, 1), (2, .iload_n 2, 1), (3, .aload_n 1, 1), (4, .getfield 146, 3), (7, .if_icmp .gt 184, 3), (10, .iconst 0, 1), (11, .istore_n 3, 1), (12, .lconst 0, 1), (13, .lstore 4, 2), (15, .lconst 1, 1), (16, .lstore 6, 2), (18, .iconst 0, 1), (19, .istore 8, 2), (21, .iload 8, 2), (23, .aload_n 1, 1), (24, .getfield 133, 3), (27, .if_icmp .ge 116, 3), (30, .aload_n 1, 1), (31, .iload 8, 2), (33, .iload_n 2, 1), (34, .invokevirtual 218, 3), (37, .lstore 9, 2), (39, .aload_n 0, 1), (40, .iload 8, 2), (42, .iload_n 2, 1), (43, .invokevirtual 54, 3), (46, .lload 9, 2), (48, .lcmp, 1), (49, .ifCond .eq 5, 3), (52, .iconst 0, 1), (53, .ireturn, 1), (54, .iload_n 3, 1), (55, .lload 9, 2), (57, .lconst 0, 1), (58, .lcmp, 1), (59, .ifCond .le 10, 3), (62, .iconst 1, 1), (63, .iload 8, 2), (65, .ishl, 1), (66, .goto 4, 3), (69, .iconst 0, 1), (70, .ior, 1), (71, .istore_n 3, 1), (72, .lload 4, 2), (74, .lload 9, 2), (76, .ladd, 1), (77, .lstore 4, 2), (79, .iconst 0, 1), (80, .istore 11, 2), (82, .iload 11, 2), (84, .aload_n 1, 1), (85, .getfield 161, 3), (88, .iload 8, 2), (90, .iaload, 1), (91, .if_icmp .ge 46, 3), (94, .iload_n 2, 1), (95, .aload_n 1, 1), (96, .getfield 146, 3), (99, .if_icmp .ge 38, 3), (102, .aload_n 0, 1), (103, .iload 8, 2), (105, .iload 11, 2), (107, .iload_n 2, 1), (108, .invokevirtual 58, 3), (111, .lload 9, 2), (113, .aload_n 1, 1), (114, .getfield 170, 3), (117, .iload 8, 2), (119, .aaload, 1), (120, .iload 11, 2), (122, .iaload, 1), (123, .i2l, 1), (124, .lmul, 1), (125, .lcmp, 1), (126, .ifCond .eq 5, 3), (129, .iconst 0, 1), (130, .ireturn, 1), (131, .iinc 11 1, 3), (134, .goto (-52), 3), (137, .iinc 8 1, 3), (140, .goto (-119), 3), (143, .iconst 0, 1), (144, .istore 8, 2), (146, .iload 8, 2), (148, .iload_n 2, 1), (149, .if_icmp .ge 17, 3), (152, .lload 6, 2), (154, .ldc2_w 219, 3), (157, .lmul, 1), (158, .lstore 6, 2), (160, .iinc 8 1, 3), (163, .goto (-17), 3), (166, .lload 4, 2), (168, .lload 6, 2), (170, .lcmp, 1), (171, .ifCond .ne 12, 3), (174, .aload_n 0, 1), (175, .iload_n 2, 1), (176, .invokevirtual 47, 3), (179, .iload_n 3, 1), (180, .if_icmp .eq 5, 3), (183, .iconst 0, 1), (184, .ireturn, 1), (185, .iinc 2 1, 3), (188, .goto (-186), 3), (191, .aload_n 0, 1), (192, .iconst 4, 1), (193, .aload_n 1, 1), (194, .getfield 146, 3), (197, .iconst 1, 1), (198, .iadd, 1), (199, .iconst 0, 1), (200, .iconst 0, 1), (201, .invokestatic 191, 3), (204, .iconst 3, 1), (205, .if_icmp .ne 36, 3), (208, .aload_n 0, 1), (209, .bipush 6, 2), (211, .iconst 0, 1), (212, .iconst (-1), 1), (213, .iconst 0, 1), (214, .invokestatic 191, 3), (217, .iconst 3, 1), (218, .if_icmp .ne 23, 3), (221, .aload_n 0, 1), (222, .bipush 7, 2), (224, .iconst 0, 1), (225, .iconst 0, 1), (226, .aload_n 1, 1), (227, .getfield 146, 3), (230, .invokestatic 191, 3), (233, .iconst 3, 1), (234, .if_icmp .ne 7, 3), (237, .iconst 1, 1), (238, .goto 4, 3), (241, .iconst 0, 1), (242, .ireturn, 1)]
theorem dk_L_flows : dkL cL_flows ii_L_flows = true := by decide +kernel
abbrev ii_L_hit : List (Nat × Instr × Nat) := [(0, .lconst 0, 1), (1, .lstore 4, 2), (3, .lconst 1, 1), (4, .lstore 6, 2), (6, .iconst 0, 1), (7, .istore 8, 2), (9, .iload 8, 2), (11, .iload_n 3, 1), (12, .if_icmp .ge 17, 3), (15, .lload 6, 2), (17, .ldc2_w 219, 3), (20, .lmul, 1), (21, .lstore 6, 2), (23, .iinc 8 1, 3), (26, .goto (-17), 3), (29, .iload_n 1, 1), (30, .iload_n 2, 1), (31, .if_icmp .ne 6, 3), (34, .lload 6, 2), (36, .lreturn, 1), (37, .iconst 0, 1), (38, .istore 8, 2), (40, .iload 8, 2), (42, .aload_n 0, 1), (43, .getfield 133, 3), (46, .if_icmp .ge 47, 3), (49, .iload_n 3, 1), (50, .ifCond .le 43, 3), (53, .aload_n 0, 1), (54, .iload_n 1, 1), (55, .iload 8, 2), (57, .invokevirtual 221, 3), (60, .ifCond .le 27, 3), (63, .lload 4, 2), (65, .aload_n 0, 1), (66, .iload_n 1, 1), (67, .iload 8, 2), (69, .invokevirtual 221, 3), (72, .i2l, 1), (73, .aload_n 0, 1), (74, .iload 8, 2), (76, .iload_n 2, 1), (77, .iload_n 3, 1), (78, .iconst 1, 1), (79, .isub, 1), (80, .invokestatic 224, 3), (83, .lmul, 1), (84, .ladd, 1), (85, .lstore 4, 2), (87, .iinc 8 1, 3), (90, .goto (-50), 3), (93, .lload 4, 2), (95, .lreturn, 1)]
theorem dk_L_hit : dkL cL_hit ii_L_hit = true := by decide +kernel
abbrev ii_L_runs_0 : List (Nat × Instr × Nat) := [(0, .iconst 0, 1), (1, .istore_n 2, 1), (2, .iconst 0, 1), (3, .istore_n 3, 1), (4, .iconst (-1), 1), (5, .istore 4, 2), (7, .aload_n 0, 1), (8, .invokevirtual 228, 3), (11, .aload_n 1, 1), (12, .invokevirtual 232, 3), (15, .lcmp, 1), (16, .ifCond .ne 52, 3), (19, .aload_n 0, 1), (20, .invokevirtual 233, 3), (23, .aload_n 1, 1), (24, .aload_n 1, 1), (25, .getfield 153, 3), (28, .aload_n 1, 1), (29, .getfield 146, 3), (32, .iconst (-1), 1), (33, .invokevirtual 236, 3), (36, .lcmp, 1), (37, .ifCond .ne 31, 3), (40, .aload_n 0, 1), (41, .invokevirtual 239, 3), (44, .aload_n 1, 1), (45, .aload_n 1, 1), (46, .getfield 153, 3), (49, .aload_n 1, 1), (50, .getfield 146, 3), (53, .iconst (-1), 1), (54, .invokevirtual 236, 3), (57, .l2f, 1), (58, .aload_n 1, 1), (59, .invokevirtual 232, 3), (62, .l2f, 1), (63, .fdiv, 1), (64, .fcmp .l, 1), (65, .ifCond .eq 5, 3), (68, .iconst 0, 1), (69, .ireturn, 1), (70, .iconst 0, 1), (71, .istore 5, 2), (73, .iload 5, 2), (75, .aload_n 1, 1), (76, .getfield 141, 3), (79, .if_icmp .ge 87, 3), (82, .aload_n 1, 1)]
theorem dk_L_runs_0 : dkL cL_runs ii_L_runs_0 = true := by decide +kernel
abbrev ii_L_runs_1 : List (Nat × Instr × Nat) := [(83, .aload_n 1, 1), (84, .getfield 153, 3), (87, .aload_n 1, 1), (88, .getfield 146, 3), (91, .iload 5, 2), (93, .invokevirtual 236, 3), (96, .lstore 6, 2), (98, .aload_n 1, 1), (99, .getfield 155, 3), (102, .iload 5, 2), (104, .iaload, 1), (105, .i2l, 1), (106, .aload_n 1, 1), (107, .invokevirtual 232, 3), (110, .lmul, 1), (111, .lload 6, 2), (113, .lsub, 1), (114, .lstore 8, 2), (116, .aload_n 0, 1), (117, .iload 5, 2), (119, .invokevirtual 243, 3), (122, .lload 6, 2), (124, .lcmp, 1), (125, .ifCond .ne 15, 3), (128, .aload_n 0, 1), (129, .iload 5, 2), (131, .invokevirtual 247, 3), (134, .lload 8, 2), (136, .lcmp, 1), (137, .ifCond .eq 5, 3), (140, .iconst 0, 1), (141, .ireturn, 1), (142, .iload_n 2, 1), (143, .lload 8, 2), (145, .lconst 0, 1), (146, .lcmp, 1), (147, .ifCond .ge 10, 3), (150, .iconst 1, 1), (151, .iload 5, 2), (153, .ishl, 1), (154, .goto 4, 3), (157, .iconst 0, 1), (158, .ior, 1), (159, .istore_n 2, 1), (160, .iinc 5 1, 3), (163, .goto (-90), 3), (166, .iconst 0, 1), (167, .istore 5, 2)]
theorem dk_L_runs_1 : dkL cL_runs ii_L_runs_1 = true := by decide +kernel
abbrev ii_L_runs_2 : List (Nat × Instr × Nat) := [(169, .iload 5, 2), (171, .aload_n 1, 1), (172, .getfield 133, 3), (175, .if_icmp .ge 183, 3), (178, .aload_n 0, 1), (179, .iload 5, 2), (181, .invokevirtual 62, 3), (184, .istore 6, 2), (186, .iconst (-1), 1), (187, .istore 7, 2), (189, .lconst 0, 1), (190, .lstore 8, 2), (192, .iconst 0, 1), (193, .istore 10, 2), (195, .iload 10, 2), (197, .aload_n 1, 1), (198, .getfield 146, 3), (201, .if_icmp .gt 53, 3), (204, .ldc2_w 219, 3), (207, .lload 8, 2), (209, .lmul, 1), (210, .aload_n 1, 1), (211, .iload 6, 2), (213, .iload 10, 2), (215, .invokevirtual 218, 3), (218, .ladd, 1), (219, .lstore 8, 2), (221, .iload 7, 2), (223, .ifCond .ge 21, 3), (226, .aload_n 1, 1), (227, .iload 6, 2), (229, .iload 10, 2), (231, .invokevirtual 218, 3), (234, .lconst 0, 1), (235, .lcmp, 1), (236, .ifCond .le 8, 3), (239, .iload 10, 2), (241, .goto 5, 3), (244, .iload 7, 2), (246, .istore 7, 2), (248, .iinc 10 1, 3), (251, .goto (-56), 3), (254, .aload_n 0, 1), (255, .iload 6, 2), (257, .invokevirtual 250, 3), (260, .lload 8, 2), (262, .lcmp, 1), (263, .ifCond .ne 38, 3)]
theorem dk_L_runs_2 : dkL cL_runs ii_L_runs_2 = true := by decide +kernel
abbrev ii_L_runs_3 : List (Nat × Instr × Nat) := [(266, .aload_n 0, 1), (267, .iload 6, 2), (269, .invokevirtual 253, 3), (272, .iload 7, 2), (274, .if_icmp .ne 27, 3), (277, .aload_n 0, 1), (278, .iload 6, 2), (280, .invokevirtual 256, 3), (283, .aload_n 1, 1), (284, .aload_n 1, 1), (285, .getfield 153, 3), (288, .iload 6, 2), (290, .aload_n 1, 1), (291, .getfield 146, 3), (294, .invokestatic 224, 3), (297, .lcmp, 1), (298, .ifCond .eq 5, 3), (301, .iconst 0, 1), (302, .ireturn, 1), (303, .iload 4, 2), (305, .ifCond .lt 36, 3), (308, .aload_n 0, 1), (309, .iload 4, 2), (311, .invokevirtual 250, 3), (314, .lload 8, 2), (316, .lcmp, 1), (317, .ifCond .lt 22, 3), (320, .aload_n 0, 1), (321, .iload 4, 2), (323, .invokevirtual 250, 3), (326, .lload 8, 2), (328, .lcmp, 1), (329, .ifCond .ne 12, 3), (332, .iload 4, 2), (334, .iload 6, 2), (336, .if_icmp .le 5, 3), (339, .iconst 0, 1), (340, .ireturn, 1), (341, .iload 6, 2), (343, .istore 4, 2), (345, .iload_n 3, 1), (346, .iconst 1, 1), (347, .iload 6, 2), (349, .ishl, 1), (350, .ior, 1), (351, .istore_n 3, 1), (352, .iinc 5 1, 3), (355, .goto (-186), 3)]
theorem dk_L_runs_3 : dkL cL_runs ii_L_runs_3 = true := by decide +kernel
abbrev ii_L_runs_4 : List (Nat × Instr × Nat) := [(358, .aload_n 0, 1), (359, .invokevirtual 200, 3), (362, .iload_n 2, 1), (363, .if_icmp .ne 35, 3), (366, .iload_n 3, 1), (367, .iconst 1, 1), (368, .aload_n 1, 1), (369, .getfield 133, 3), (372, .ishl, 1), (373, .iconst 1, 1), (374, .isub, 1), (375, .if_icmp .ne 23, 3), (378, .aload_n 0, 1), (379, .bipush 8, 2), (381, .aload_n 1, 1), (382, .getfield 133, 3), (385, .iconst 0, 1), (386, .iconst 0, 1), (387, .invokestatic 191, 3), (390, .iconst 2, 1), (391, .if_icmp .ne 7, 3), (394, .iconst 1, 1), (395, .goto 4, 3), (398, .iconst 0, 1), (399, .ireturn, 1)]
theorem dk_L_runs_4 : dkL cL_runs ii_L_runs_4 = true := by decide +kernel
abbrev ii_L_law_0 : List (Nat × Instr × Nat) := [(0, .new 196, 3), (3, .dup, 1), (4, .aload_n 0, 1), (5, .invokespecial 258, 3), (8, .astore_n 1, 1), (9, .new 134, 3), (12, .dup, 1), (13, .aload_n 1, 1), (14, .invokespecial 261, 3), (17, .astore_n 2, 1), (18, .new 18, 3), (21, .dup, 1), (22, .invokespecial 264, 3), (25, .astore_n 3, 1), (26, .aload_n 3, 1), (27, .bipush 26, 2), (29, .iconst 0, 1), (30, .iconst 0, 1), (31, .iconst 0, 1), (32, .invokestatic 191, 3), (35, .iconst 1, 1), (36, .if_icmp .ne 62, 3), (39, .aload_n 3, 1), (40, .iconst 0, 1), (41, .iconst 0, 1), (42, .iconst 0, 1), (43, .iconst 0, 1), (44, .invokestatic 191, 3), (47, .iconst 1, 1), (48, .if_icmp .ne 50, 3), (51, .aload_n 3, 1), (52, .bipush 22, 2), (54, .iconst 0, 1), (55, .iconst 0, 1), (56, .iconst 0, 1), (57, .invokestatic 191, 3), (60, .iconst 1, 1), (61, .if_icmp .ne 37, 3), (64, .aload_n 3, 1), (65, .bipush 16, 2), (67, .iconst 0, 1), (68, .iconst 0, 1), (69, .iconst 0, 1), (70, .invokestatic 191, 3), (73, .iconst 2, 1), (74, .if_icmp .ne 24, 3), (77, .aload_n 3, 1), (78, .invokevirtual 130, 3)]
theorem dk_L_law_0 : dkL cL_law ii_L_law_0 = true := by decide +kernel
abbrev ii_L_law_1 : List (Nat × Instr × Nat) := [(81, .ifCond .ne 17, 3), (84, .aload_n 3, 1), (85, .invokevirtual 143, 3), (88, .ifCond .ne 10, 3), (91, .aload_n 3, 1), (92, .invokevirtual 265, 3), (95, .ifCond .eq 5, 3), (98, .iconst 0, 1), (99, .ireturn, 1), (100, .iconst 0, 1), (101, .istore 4, 2), (103, .iconst 0, 1), (104, .istore 5, 2), (106, .iload 5, 2), (108, .aload_n 2, 1), (109, .getfield 133, 3), (112, .if_icmp .ge 21, 3), (115, .iload 4, 2), (117, .aload_n 2, 1), (118, .getfield 161, 3), (121, .iload 5, 2), (123, .iaload, 1), (124, .iadd, 1), (125, .istore 4, 2), (127, .iinc 5 1, 3), (130, .goto (-24), 3), (133, .aload_n 3, 1), (134, .aload_n 2, 1), (135, .getfield 268, 3), (138, .invokevirtual 272, 3), (141, .invokestatic 278, 3), (144, .iload 4, 2), (146, .if_icmp .ne 26, 3), (149, .aload_n 3, 1), (150, .invokevirtual 282, 3), (153, .ifCond .ne 19, 3), (156, .aload_n 3, 1), (157, .invokevirtual 285, 3), (160, .iconst (-1), 1), (161, .if_icmp .ne 11, 3), (164, .aload_n 3, 1), (165, .aload_n 2, 1), (166, .invokestatic 288, 3), (169, .ifCond .ne 5, 3), (172, .iconst 0, 1), (173, .ireturn, 1), (174, .aload_n 1, 1), (175, .iconst 1, 1)]
theorem dk_L_law_1 : dkL cL_law ii_L_law_1 = true := by decide +kernel
abbrev ii_L_law_2 : List (Nat × Instr × Nat) := [(176, .bipush 7, 2), (178, .invokevirtual 195, 3), (181, .istore 5, 2), (183, .iload 5, 2), (185, .ifCond .le 44, 3), (188, .aload_n 3, 1), (189, .aload_n 2, 1), (190, .invokestatic 292, 3), (193, .ifCond .eq 28, 3), (196, .aload_n 3, 1), (197, .aload_n 2, 1), (198, .invokestatic 295, 3), (201, .ifCond .eq 20, 3), (204, .aload_n 3, 1), (205, .aload_n 2, 1), (206, .aload_n 1, 1), (207, .invokestatic 298, 3), (210, .ifCond .eq 11, 3), (213, .aload_n 3, 1), (214, .aload_n 2, 1), (215, .invokestatic 288, 3), (218, .ifCond .ne 5, 3), (221, .iconst 0, 1), (222, .ireturn, 1), (223, .iinc 5 (-1), 3), (226, .goto (-43), 3), (229, .aload_n 3, 1), (230, .iconst 0, 1), (231, .aload_n 2, 1), (232, .getfield 133, 3), (235, .iconst 0, 1), (236, .iconst 0, 1), (237, .invokestatic 191, 3), (240, .iconst 2, 1), (241, .if_icmp .ne 92, 3), (244, .aload_n 3, 1), (245, .iconst 0, 1), (246, .iconst 0, 1), (247, .aload_n 2, 1), (248, .getfield 161, 3), (251, .iconst 0, 1), (252, .iaload, 1), (253, .iconst 0, 1), (254, .invokestatic 191, 3), (257, .iconst 2, 1), (258, .if_icmp .ne 75, 3), (261, .aload_n 3, 1), (262, .iconst 3, 1)]
theorem dk_L_law_2 : dkL cL_law ii_L_law_2 = true := by decide +kernel
abbrev ii_L_law_3 : List (Nat × Instr × Nat) := [(263, .aload_n 2, 1), (264, .getfield 141, 3), (267, .iconst 0, 1), (268, .iconst 0, 1), (269, .invokestatic 191, 3), (272, .iconst 2, 1), (273, .if_icmp .ne 60, 3), (276, .aload_n 3, 1), (277, .iconst 2, 1), (278, .iconst 0, 1), (279, .iconst 0, 1), (280, .aload_n 2, 1), (281, .getfield 133, 3), (284, .invokestatic 191, 3), (287, .iconst 2, 1), (288, .if_icmp .ne 45, 3), (291, .aload_n 3, 1), (292, .bipush 21, 2), (294, .bipush 6, 2), (296, .iconst 0, 1), (297, .iconst 0, 1), (298, .invokestatic 191, 3), (301, .iconst 3, 1), (302, .if_icmp .ne 31, 3), (305, .aload_n 3, 1), (306, .bipush 17, 2), (308, .iconst 0, 1), (309, .bipush 9, 2), (311, .iconst 0, 1), (312, .invokestatic 191, 3), (315, .iconst 3, 1), (316, .if_icmp .ne 17, 3), (319, .aload_n 3, 1), (320, .bipush 17, 2), (322, .iconst 0, 1), (323, .bipush 11, 2), (325, .iconst (-1), 1), (326, .invokestatic 191, 3), (329, .iconst 3, 1), (330, .if_icmp .eq 5, 3), (333, .iconst 0, 1), (334, .ireturn, 1), (335, .aload_n 3, 1), (336, .bipush 20, 2), (338, .aload_n 2, 1), (339, .getfield 141, 3), (342, .iconst 0, 1), (343, .iconst 0, 1)]
theorem dk_L_law_3 : dkL cL_law ii_L_law_3 = true := by decide +kernel
abbrev ii_L_law_4 : List (Nat × Instr × Nat) := [(344, .invokestatic 191, 3), (347, .iconst 2, 1), (348, .if_icmp .ne 46, 3), (351, .aload_n 3, 1), (352, .bipush 15, 2), (354, .sipush 201, 3), (357, .iconst 0, 1), (358, .iconst 0, 1), (359, .invokestatic 191, 3), (362, .iconst 3, 1), (363, .if_icmp .ne 31, 3), (366, .aload_n 3, 1), (367, .aload_n 2, 1), (368, .invokestatic 292, 3), (371, .ifCond .eq 23, 3), (374, .aload_n 3, 1), (375, .aload_n 2, 1), (376, .invokestatic 295, 3), (379, .ifCond .eq 15, 3), (382, .aload_n 3, 1), (383, .aload_n 2, 1), (384, .invokestatic 288, 3), (387, .ifCond .eq 7, 3), (390, .iconst 1, 1), (391, .goto 4, 3), (394, .iconst 0, 1), (395, .ireturn, 1)]
theorem dk_L_law_4 : dkL cL_law ii_L_law_4 = true := by decide +kernel
end
section
/-! the memory of the walk: by object and place; shapes of objects; the world that they make -/
abbrev Mem : Type := (Nat → Nat → Int32) × (Nat → Nat → Int64) × (Nat → Nat → Option Nat)
def gI (M : Mem) (o k : Nat) : Int32 := M.1 o k
def gL (M : Mem) (o k : Nat) : Int64 := M.2.1 o k
def gR (M : Mem) (o k : Nat) : Option Nat := M.2.2 o k
def sI (M : Mem) (o k : Nat) (v : Int32) : Mem := (fun a b => if a = o ∧ b = k then v else M.1 a b, M.2.1, M.2.2)
def sL (M : Mem) (o k : Nat) (v : Int64) : Mem := (M.1, fun a b => if a = o ∧ b = k then v else M.2.1 a b, M.2.2)
def sR (M : Mem) (o k : Nat) (v : Option Nat) : Mem := (M.1, M.2.1, fun a b => if a = o ∧ b = k then v else M.2.2 a b)
/-- the object o is new: all of it is zero -/
def sZ (M : Mem) (o : Nat) : Mem := (fun a b => if a = o then 0 else M.1 a b, fun a b => if a = o then 0 else M.2.1 a b, fun a b => if a = o then none else M.2.2 a b)
theorem gI_sI (M : Mem) (o k : Nat) (v : Int32) (a b : Nat) : gI (sI M o k v) a b = if a = o ∧ b = k then v else gI M a b := rfl
theorem gL_sL (M : Mem) (o k : Nat) (v : Int64) (a b : Nat) : gL (sL M o k v) a b = if a = o ∧ b = k then v else gL M a b := rfl
theorem gR_sR (M : Mem) (o k : Nat) (v : Option Nat) (a b : Nat) : gR (sR M o k v) a b = if a = o ∧ b = k then v else gR M a b := rfl
theorem gI_sL (M : Mem) (o k : Nat) (v : Int64) (a b : Nat) : gI (sL M o k v) a b = gI M a b := rfl
theorem gI_sR (M : Mem) (o k : Nat) (v : Option Nat) (a b : Nat) : gI (sR M o k v) a b = gI M a b := rfl
theorem gL_sI (M : Mem) (o k : Nat) (v : Int32) (a b : Nat) : gL (sI M o k v) a b = gL M a b := rfl
theorem gL_sR (M : Mem) (o k : Nat) (v : Option Nat) (a b : Nat) : gL (sR M o k v) a b = gL M a b := rfl
theorem gR_sI (M : Mem) (o k : Nat) (v : Int32) (a b : Nat) : gR (sI M o k v) a b = gR M a b := rfl
theorem gR_sL (M : Mem) (o k : Nat) (v : Int64) (a b : Nat) : gR (sL M o k v) a b = gR M a b := rfl
abbrev SE : Type := Nat × Nat
/-- how many fields a class has; kinds of fields: 0 int and its like, 1 long, 2 a reference -/
def nFd (c : Nat) : Nat := match vwCl[c]? with
  | some q => q.2.2
  | none => 0
def kTy (t : FieldType) : Nat := match t with
  | .long => 1
  | .array _ => 2
  | .object _ => 2
  | _ => 0
def kFd (c j : Nat) : Nat := match vwCl[c]? with
  | some q => match parseFieldDescriptor (q.2.1 j).2.2.1 with
    | some t => kTy t
    | none => 0
  | none => 0
def fVal (ad : Nat → Nat) (M : Mem) (o j k : Nat) : Value := match k with
  | 0 => .int (gI M o j)
  | 1 => .long (gL M o j)
  | _ => va_rf ((gR M o j).map ad)
def fsO (ad : Nat → Nat) (M : Mem) (o c : Nat) : List Value := (List.range (nFd c)).map (fun j => fVal ad M o j (kFd c j))
/-- a row of bytes whose length the memory keeps (in its long at 0) -/
def vlen (M : Mem) (o : Nat) : Nat := (gL M o 0).toInt.toNat
/-- what an object is in the heap: 0 int[], 1 long[], 2 byte[], 3 boolean[], 4 a byte[] of its own length, 5 rows of references (their class in the thousands: Settings, int[], int[][], boolean[]), c + 6 an object of the class c -/
def cE (dA : Nat → ClassId) (ad : Nat → Nat) (M : Mem) (o : Nat) (e : SE) : va_E := match e.1 with
  | 0 => .inl (dA 0, e.2, .inl (gI M o))
  | 1 => .inl (dA 1, e.2, .inr (.inl (gL M o)))
  | 2 => .inl (dA 2, e.2, .inl (gI M o))
  | 3 => .inl (dA 3, e.2, .inl (gI M o))
  | 4 => .inl (dA 2, vlen M o, .inl (gI M o))
  | 5 => .inl (dA (5 + e.2 / 1000), e.2 % 1000, .inr (.inr (.inr (.inr (fun j => (gR M o j).map ad)))))
  | c + 6 => .inr (c, fsO ad M o c)
/-- a context: the first state, the places of classes and fields, the classes of arrays, what memories keep, addresses, shapes, the launch, addresses of texts -/
abbrev WC : Type := State × va_G × (Nat → ClassId) × (Mem → Prop) × (Nat → Nat) × (List Nat × (Nat → Option SE)) × Launch × (Nat → Nat) × (Nat → Nat)
def wU (Γ : WC) : State := Γ.1
def wD (Γ : WC) : va_G := Γ.2.1
def wA (Γ : WC) : Nat → ClassId := Γ.2.2.1
def wK (Γ : WC) : Mem → Prop := Γ.2.2.2.1
def wad (Γ : WC) : Nat → Nat := Γ.2.2.2.2.1
def wnl (Γ : WC) : List Nat := Γ.2.2.2.2.2.1.1
def wsh (Γ : WC) : Nat → Option SE := Γ.2.2.2.2.2.1.2
def wl (Γ : WC) : Launch := Γ.2.2.2.2.2.2.1
def wst (Γ : WC) : Nat → Nat := Γ.2.2.2.2.2.2.2.1
def wsv (Γ : WC) : Nat → Nat := Γ.2.2.2.2.2.2.2.2
def fAg (Γ : WC) : Nat → Prop := fun q => (wU Γ).heap.size ≤ q
def wCell (Γ : WC) (M : Mem) (o : Nat) : Nat × va_E := (wad Γ o, cE (wA Γ) (wad Γ) M o ((wsh Γ o).getD (0, 0)))
def wO (Γ : WC) (M : Mem) : va_W := (wnl Γ).map (wCell Γ M)
/-- the object o is there, and of this shape; its place -/
def On (Γ : WC) (o : Nat) (e : SE) : Prop := o ∈ wnl Γ ∧ (wnl Γ).Nodup ∧ wsh Γ o = some e
def px (Γ : WC) (o : Nat) : Nat := (wnl Γ).idxOf o
def tysA (dA : Nat → ClassId) : List (ClassId × FieldType) := [(dA 0, .int), (dA 1, .long), (dA 2, .byte), (dA 3, .boolean), (dA 5, .object "DecisionChain$Settings"), (dA 6, .array .int), (dA 7, .array (.array .int)), (dA 8, .array .boolean)]
theorem wO_at {Γ : WC} {M : Mem} {o : Nat} {e : SE} (h : On Γ o e) : (wO Γ M)[px Γ o]? = some (wad Γ o, cE (wA Γ) (wad Γ) M o e) := by
  have hl := List.idxOf_lt_length_of_mem h.1
  have hg : (wnl Γ)[px Γ o]? = some o := by
    show (wnl Γ)[(wnl Γ).idxOf o]? = some o
    rw [List.getElem?_eq_getElem hl]
    exact congrArg some (List.getElem_idxOf hl)
  simp only [wO, List.getElem?_map, hg, Option.map_some, wCell, h.2.2, Option.getD_some]
theorem px_of {Γ : WC} {o i : Nat} (h : (wnl Γ).Nodup) (hi : (wnl Γ)[i]? = some o) : px Γ o = i := by
  obtain ⟨h1, h2⟩ := List.getElem?_eq_some_iff.mp hi
  have := List.Nodup.idxOf_getElem h i h1
  rw [h2] at this
  exact this
theorem wO_set {Γ : WC} {M M' : Mem} {o : Nat} {e : SE} (h : On Γ o e) (hM : ∀ a, a ≠ o → ∀ s : SE, cE (wA Γ) (wad Γ) M' a s = cE (wA Γ) (wad Γ) M a s) : (wO Γ M).set (px Γ o) (wad Γ o, cE (wA Γ) (wad Γ) M' o e) = wO Γ M' := by
  apply List.ext_getElem?
  intro i
  by_cases hi : i = px Γ o
  · subst hi
    have hl : px Γ o < (wO Γ M).length := (List.getElem?_eq_some_iff.mp (wO_at (M := M) h)).1
    rw [List.getElem?_set_self hl, wO_at h]
  · rw [List.getElem?_set_ne (Ne.symm hi)]
    simp only [wO, List.getElem?_map]
    cases hr : (wnl Γ)[i]? with
    | none => rfl
    | some j =>
      have hj : j ≠ o := fun z => hi (by rw [z] at hr; exact (px_of h.2.1 hr).symm)
      simp only [Option.map_some, wCell, hM j hj]
theorem cE_sI {dA : Nat → ClassId} {ad : Nat → Nat} {M : Mem} {o k : Nat} {v : Int32} {a : Nat} (h : a ≠ o) (s : SE) : cE dA ad (sI M o k v) a s = cE dA ad M a s := by
  have h1 : ∀ b, gI (sI M o k v) a b = gI M a b := fun b => by rw [gI_sI, if_neg (fun z => h z.1)]
  have h1f : gI (sI M o k v) a = gI M a := funext h1
  have h2f : gL (sI M o k v) a = gL M a := rfl
  have h3f : gR (sI M o k v) a = gR M a := rfl
  have h4 : ∀ j q, fVal ad (sI M o k v) a j q = fVal ad M a j q := fun j q => by simp only [fVal, h1f, h2f, h3f]
  simp only [cE, vlen, fsO, h1f, h2f, h3f, h4]
theorem cE_sL {dA : Nat → ClassId} {ad : Nat → Nat} {M : Mem} {o k : Nat} {v : Int64} {a : Nat} (h : a ≠ o) (s : SE) : cE dA ad (sL M o k v) a s = cE dA ad M a s := by
  have h1 : ∀ b, gL (sL M o k v) a b = gL M a b := fun b => by rw [gL_sL, if_neg (fun z => h z.1)]
  have h1f : gL (sL M o k v) a = gL M a := funext h1
  have h2f : gI (sL M o k v) a = gI M a := rfl
  have h3f : gR (sL M o k v) a = gR M a := rfl
  have h4 : ∀ j q, fVal ad (sL M o k v) a j q = fVal ad M a j q := fun j q => by simp only [fVal, h1f, h2f, h3f]
  simp only [cE, vlen, fsO, h1f, h2f, h3f, h4]
theorem cE_sR {dA : Nat → ClassId} {ad : Nat → Nat} {M : Mem} {o k : Nat} {v : Option Nat} {a : Nat} (h : a ≠ o) (s : SE) : cE dA ad (sR M o k v) a s = cE dA ad M a s := by
  have h1 : ∀ b, gR (sR M o k v) a b = gR M a b := fun b => by rw [gR_sR, if_neg (fun z => h z.1)]
  have h1f : gR (sR M o k v) a = gR M a := funext h1
  have h2f : gI (sR M o k v) a = gI M a := rfl
  have h3f : gL (sR M o k v) a = gL M a := rfl
  have h4 : ∀ j q, fVal ad (sR M o k v) a j q = fVal ad M a j q := fun j q => by simp only [fVal, h1f, h2f, h3f]
  simp only [cE, vlen, fsO, h1f, h2f, h3f, h4]
theorem wO_addr {Γ : WC} {M M' : Mem} {k : Nat} {q : Nat × va_E} (h : (wO Γ M)[k]? = some q) : ∃ e', (wO Γ M')[k]? = some (q.1, e') := by
  simp only [wO, List.getElem?_map, Option.map_eq_some_iff] at h ⊢
  obtain ⟨j, hj, rfl⟩ := h
  exact ⟨_, j, hj, rfl⟩
theorem wO_D {Γ : WC} {A : Nat → Prop} {M : Mem} (M' : Mem) (h : va_D A (wO Γ M)) : va_D A (wO Γ M') := by
  refine ⟨fun i j p q hp hq e => ?_, fun k q hk => ?_⟩
  · obtain ⟨e1, h1⟩ := wO_addr (M' := M) hp
    obtain ⟨e2, h2⟩ := wO_addr (M' := M) hq
    exact h.1 i j _ _ h1 h2 e
  · obtain ⟨e1, h1⟩ := wO_addr (M' := M) hk
    exact h.2 k (q.1, e1) h1
/-- words that hold in all later states -/
def okW (w : Cond) : Bool := goodWord w || (match w with
  | .methodLinkNest .. => true
  | .castable .. => true
  | .declares _ => true
  | _ => false)
def Gd (w : Cond) : Prop := w ∈ lw_tbl ∧ okW w = true
theorem gd {w : Cond} (i : Nat) (h : lw_tbl[i]? = some w) (g : okW w = true) : Gd w := ⟨List.mem_of_getElem? h, g⟩
theorem Gd.at {w : Cond} (h : Gd w) {a0 a : Array Value} {U0 U : State} (hw : ∀ w ∈ lw_tbl, w.before a0 U0 = true) (hW : U0.WarmedH U.vm) : w.before a U = true := by
  obtain ⟨h1, h2⟩ := h
  have h0 := hw w h1
  simp only [okW, Bool.or_eq_true] at h2
  rcases h2 with h2 | h2
  · exact word_at hW (good_of_word h2) h0
  · cases w <;> first | (exact absurd h2 (by decide)) | (exact absurd h2 Bool.false_ne_true) | (refine va_Nw.use (by rfl) ?_; first | exact va_Nw.warmM hW (va_Nw.of (by rfl) h0) | exact va_Nw.warmC hW (va_Nw.of (by rfl) h0) | exact va_Nw.warmD hW (va_Nw.of (by rfl) h0))
def WP (Γ : WC) (M : Mem) (U : State) : Prop := wK Γ M ∧ (wU Γ).WarmedH U.vm ∧ va_S (fAg Γ) (wU Γ).heap U.heap [] ∧ va_P (wD Γ) vwCl (wO Γ M) U.heap ∧ va_D (fAg Γ) (wO Γ M)
/-- .. but the tables: where a method throws -/
def WPX (Γ : WC) (M : Mem) (U : State) : Prop := wK Γ M ∧ va_S (fAg Γ) (wU Γ).heap U.heap [] ∧ va_P (wD Γ) vwCl (wO Γ M) U.heap ∧ va_D (fAg Γ) (wO Γ M)
/-- what the memories of a context keep -/
def KW (Γ : WC) : Prop := ∀ M M', (∀ a b, gR M' a b = gR M a b) → wK Γ M → wK Γ M'
/-- what holds of a context -/
def HG (Γ : WC) : Prop := (∀ w, Gd w → ∀ (a : Array Value) (U : State), (wU Γ).WarmedH U.vm → w.before a U = true) ∧ va_K (wD Γ) vwCl (tysA (wA Γ)) (wU Γ) ∧ (wl Γ).stackTraces = false ∧
  vx_Zq Bundle.tN "UNASSIGNED_STACK" Bundle.steD (fAg Γ) (wU Γ) (wU Γ).heap ∧ vx_Zq Bundle.tN "SUPPRESSED_SENTINEL" Bundle.listD (fAg Γ) (wU Γ) (wU Γ).heap ∧ KW Γ
theorem HG.kw {Γ : WC} (h : HG Γ) : KW Γ := h.2.2.2.2.2
abbrev MX : Type := Program × Env × Room × State × MethodId × Array Value × List Frame × Method × Code × (State → Prop)
def lO (k : Nat) : List (Option Value) → List (Nat × Value)
  | [] => []
  | none :: t => lO (k + 1) t
  | some v :: t => (k, v) :: lO (k + 1) t
def lget : List (Option Value) → Nat → Option Value
  | [], _ => none
  | a :: _, 0 => a
  | _ :: t, n + 1 => lget t n
def lclr (o : Option Value) : Option Value := match o with
  | some (.long _) => none
  | some (.double _) => none
  | o => o
def lset1 : List (Option Value) → Nat → Value → List (Option Value)
  | [], 0, v => [some v]
  | [], n + 1, v => none :: lset1 [] n v
  | _ :: t, 0, v => some v :: t
  | a :: t, 1, v => lclr a :: lset1 t 0 v
  | a :: t, n + 2, v => a :: lset1 t (n + 1) v
def lnon : List (Option Value) → Nat → List (Option Value)
  | [], _ => []
  | _ :: t, 0 => none :: t
  | a :: t, n + 1 => a :: lnon t n
def lset2 (L : List (Option Value)) (i : Nat) (v : Value) : List (Option Value) := lset1 (lnon L (i + 1)) i v
theorem lO_mem : ∀ {L : List (Option Value)} {i : Nat} {v : Value} (k : Nat), lget L i = some v → (k + i, v) ∈ lO k L
  | [], _, _, _, h => nomatch h
  | none :: t, 0, v, k, h => nomatch h
  | some w :: t, 0, v, k, h => by
    cases h
    exact List.mem_cons_self
  | none :: t, n + 1, v, k, h => by
    have := lO_mem (L := t) (k + 1) h
    rw [show k + 1 + n = k + (n + 1) by omega] at this
    exact this
  | some w :: t, n + 1, v, k, h => by
    have := lO_mem (L := t) (k + 1) h
    rw [show k + 1 + n = k + (n + 1) by omega] at this
    exact List.mem_cons_of_mem _ this
theorem lO_of : ∀ {L : List (Option Value)} {k : Nat} {q : Nat × Value}, q ∈ lO k L → ∃ i, q.1 = k + i ∧ lget L i = some q.2
  | [], _, _, h => nomatch h
  | none :: t, k, q, h => by
    obtain ⟨i, h1, h2⟩ := lO_of (L := t) (k := k + 1) h
    exact ⟨i + 1, by omega, h2⟩
  | some w :: t, k, q, h => by
    rcases List.mem_cons.mp h with h | h
    · subst h
      exact ⟨0, rfl, rfl⟩
    · obtain ⟨i, h1, h2⟩ := lO_of (L := t) (k := k + 1) h
      exact ⟨i + 1, by omega, h2⟩
theorem lget_set1 : ∀ {L : List (Option Value)} {i : Nat} {v : Value} {j : Nat} {w : Value}, lget (lset1 L i v) j = some w → (j = i ∧ w = v) ∨ (j ≠ i ∧ lget L j = some w ∧ ¬ (j + 1 = i ∧ w.category = 2))
  | [], 0, v, 0, w, h => by
    cases h
    exact Or.inl ⟨rfl, rfl⟩
  | [], 0, v, j + 1, w, h => by
    simp [lset1, lget] at h
  | [], n + 1, v, 0, w, h => by
    simp [lset1, lget] at h
  | [], n + 1, v, j + 1, w, h => by
    rcases lget_set1 (L := []) (i := n) (v := v) (j := j) (w := w) h with ⟨a, b⟩ | ⟨a, b, c⟩
    · exact Or.inl ⟨by omega, b⟩
    · simp [lget] at b
  | a :: t, 0, v, 0, w, h => by
    cases h
    exact Or.inl ⟨rfl, rfl⟩
  | a :: t, 0, v, j + 1, w, h => Or.inr ⟨by omega, h, by omega⟩
  | a :: t, 1, v, 0, w, h => by
    refine Or.inr ⟨by omega, ?_, ?_⟩
    · simp only [lset1, lget, lclr] at h ⊢
      split at h <;> first | exact h | cases h
    · simp only [lset1, lget, lclr] at h
      rintro ⟨-, hw⟩
      split at h
      · cases h
      · cases h
      · rename_i h1 h2
        cases w <;> first | exact absurd h (h1 _) | exact absurd h (h2 _) | (simp [Value.category] at hw)
  | a :: t, 1, v, j + 1, w, h => by
    rcases lget_set1 (L := t) (i := 0) (v := v) (j := j) (w := w) h with ⟨x, b⟩ | ⟨x, b, c⟩
    · exact Or.inl ⟨by omega, b⟩
    · exact Or.inr ⟨by omega, b, by omega⟩
  | a :: t, n + 2, v, 0, w, h => Or.inr ⟨by omega, h, by omega⟩
  | a :: t, n + 2, v, j + 1, w, h => by
    rcases lget_set1 (L := t) (i := n + 1) (v := v) (j := j) (w := w) h with ⟨x, b⟩ | ⟨x, b, c⟩
    · exact Or.inl ⟨by omega, b⟩
    · exact Or.inr ⟨by omega, b, fun z => c ⟨by omega, z.2⟩⟩
theorem lget_non : ∀ {L : List (Option Value)} {i j : Nat} {w : Value}, lget (lnon L i) j = some w → j ≠ i ∧ lget L j = some w
  | [], _, _, _, h => by simp [lnon, lget] at h
  | a :: t, 0, 0, w, h => by simp [lnon, lget] at h
  | a :: t, 0, j + 1, w, h => ⟨by omega, h⟩
  | a :: t, n + 1, 0, w, h => ⟨by omega, h⟩
  | a :: t, n + 1, j + 1, w, h => by
    obtain ⟨x, y⟩ := lget_non (L := t) (i := n) (j := j) (w := w) h
    exact ⟨by omega, y⟩
theorem lO_at {ls : Array Slot} {n : Nat} {L : List (Option Value)} (h : lv_has ls n (lO 0 L)) {i : Nat} {v : Value} (hi : lget L i = some v) : ls[i]? = some (.val v) := by
  have := h.2.2 (0 + i, v) (lO_mem 0 hi)
  rw [Nat.zero_add] at this
  exact this
theorem lO_set1 {ls : Array Slot} {n : Nat} {L : List (Option Value)} {i : Nat} {v : Value} (h : lv_has ls n ((i, v) :: (lO 0 L).filter (fun q => !(q.1 == i) && !(q.1 + 1 == i && q.2.category == 2)))) : lv_has ls n (lO 0 (lset1 L i v)) := by
  refine ⟨h.1, h.2.1, fun q hq => ?_⟩
  obtain ⟨j, h1, h2⟩ := lO_of hq
  obtain ⟨q1, q2⟩ := q
  dsimp only at h1 h2 ⊢
  rw [Nat.zero_add] at h1
  subst h1
  rcases lget_set1 h2 with ⟨rfl, rfl⟩ | ⟨a, b, c⟩
  · exact h.2.2 _ List.mem_cons_self
  · refine h.2.2 (q1, q2) (List.mem_cons_of_mem _ (List.mem_filter.mpr ⟨?_, ?_⟩))
    · have := lO_mem 0 b
      rw [Nat.zero_add] at this
      exact this
    · have e1 : (q1 == i) = false := beq_eq_false_iff_ne.mpr a
      have e2 : (q1 + 1 == i && q2.category == 2) = false := by
        by_cases z : q1 + 1 = i
        · have : ¬ q2.category = 2 := fun y => c ⟨z, y⟩
          rw [beq_eq_false_iff_ne.mpr this, Bool.and_false]
        · rw [beq_eq_false_iff_ne.mpr z, Bool.false_and]
      simp only [e1, e2, Bool.not_false, Bool.and_self]
theorem lO_set2 {ls : Array Slot} {n : Nat} {L : List (Option Value)} {i : Nat} {v : Value} (h : lv_has ls n ((i, v) :: (lO 0 L).filter (fun q => !(q.1 == i) && (!(q.1 == i + 1) && !(q.1 + 1 == i && q.2.category == 2))))) : lv_has ls n (lO 0 (lset2 L i v)) := by
  refine ⟨h.1, h.2.1, fun q hq => ?_⟩
  obtain ⟨j, h1, h2⟩ := lO_of hq
  obtain ⟨q1, q2⟩ := q
  dsimp only at h1 h2 ⊢
  rw [Nat.zero_add] at h1
  subst h1
  rcases lget_set1 h2 with ⟨rfl, rfl⟩ | ⟨a, b, c⟩
  · exact h.2.2 _ List.mem_cons_self
  · obtain ⟨d, b⟩ := lget_non b
    refine h.2.2 (q1, q2) (List.mem_cons_of_mem _ (List.mem_filter.mpr ⟨?_, ?_⟩))
    · have := lO_mem 0 b
      rw [Nat.zero_add] at this
      exact this
    · have e1 : (q1 == i) = false := beq_eq_false_iff_ne.mpr a
      have e3 : (q1 == i + 1) = false := beq_eq_false_iff_ne.mpr d
      have e2 : (q1 + 1 == i && q2.category == 2) = false := by
        by_cases z : q1 + 1 = i
        · have : ¬ q2.category = 2 := fun y => c ⟨z, y⟩
          rw [beq_eq_false_iff_ne.mpr this, Bool.and_false]
        · rw [beq_eq_false_iff_ne.mpr z, Bool.false_and]
      simp only [e1, e2, e3, Bool.not_false, Bool.and_self]
/-- fewer locals known -/
def LSub : List (Option Value) → List (Option Value) → Prop
  | [], _ => True
  | none :: t, [] => LSub t []
  | none :: t, _ :: u => LSub t u
  | some _ :: _, [] => False
  | some v :: t, b :: u => b = some v ∧ LSub t u
theorem LSub.get : ∀ {L K : List (Option Value)}, LSub L K → ∀ {i : Nat} {v : Value}, lget L i = some v → lget K i = some v
  | [], _, _, _, _, h => nomatch h
  | none :: t, [], hs, 0, v, h => nomatch h
  | none :: t, [], hs, n + 1, v, h => by
    have := LSub.get (L := t) (K := []) hs (i := n) (v := v) h
    exact nomatch this
  | none :: t, b :: u, hs, 0, v, h => nomatch h
  | none :: t, b :: u, hs, n + 1, v, h => LSub.get (L := t) (K := u) hs (i := n) (v := v) h
  | some w :: t, [], hs, _, _, _ => nomatch hs
  | some w :: t, b :: u, hs, 0, v, h => by
    cases h
    exact hs.1
  | some w :: t, b :: u, hs, n + 1, v, h => LSub.get (L := t) (K := u) hs.2 (i := n) (v := v) h
theorem lO_sub {ls : Array Slot} {n : Nat} {L K : List (Option Value)} (hs : LSub L K) (h : lv_has ls n (lO 0 K)) : lv_has ls n (lO 0 L) := by
  refine ⟨h.1, h.2.1, fun q hq => ?_⟩
  obtain ⟨j, h1, h2⟩ := lO_of hq
  have := lO_at h (hs.get h2)
  rw [h1, Nat.zero_add]
  exact this
def lE : List Value → List (Option Value)
  | [] => []
  | v :: t => if v.category = 2 then some v :: none :: lE t else some v :: lE t
theorem lE_args : ∀ (vs : List Value) (k : Nat), lO k (lE vs) = lv_args k vs
  | [], _ => rfl
  | v :: t, k => by
    by_cases h : v.category = 2
    · rw [lE, if_pos h, lv_args, if_pos h]
      simp only [lO]
      rw [lE_args t (k + 2)]
    · rw [lE, if_neg h, lv_args, if_neg h]
      simp only [lO]
      rw [lE_args t (k + 1)]
/-- the goal of a walk: from this memory, these locals, this stack and place the method comes to what Q says -/
def G (Γ : WC) (X : MX) (M : Mem) (cs sl : Nat) (L : List (Option Value)) (st : List Value) (pc : Nat) : Prop := match X with
  | (p, e, R, s, m, args, below, meth, c, Q) => ∀ (H : Heap) (locs : List Loc) (ls : Array Slot), wK Γ M → va_P (wD Γ) vwCl (wO Γ M) H → va_D (fAg Γ) (wO Γ M) → va_S (fAg Γ) (wU Γ).heap H locs → lv_has ls c.maxLocals (lO 0 L) → W p (wl Γ) e R s m args below meth c H locs cs sl Q (F0 m pc ls st)
/-- what a walk stands on -/
def CX (Γ : WC) (X : MX) (cc : ByteArray) (nL : Nat) (own : String) (ret : Option FieldType) (R0 : Room) : Prop := match X with
  | (p, _, R, s, m, args, _, meth, c, _) => p.tables.exec = Jvm.exec ∧ c.code = cc ∧ c.maxLocals = nL ∧ s.vm.findClass own = some m.cls ∧ (∀ w, Gd w → w.before args s = true) ∧ (wU Γ).WarmedH s.vm ∧ meth.locks = false ∧ meth.sig.returnType = ret ∧ R = R0 ∧ va_K (wD Γ) vwCl (tysA (wA Γ)) s ∧ va_S (fAg Γ) (wU Γ).heap s.heap [] ∧ HG Γ
/-- contract of a method that returns: with these arguments on this memory it answers v and leaves M' -/
def Ct (Γ : WC) (y : MethodName) (cc : ByteArray) (nL : Nat) (ret : Option FieldType) (rm : Room) (As : List Value) (M : Mem) (v : Option Value) (M' : Mem) : Prop :=
  Met (wl Γ) y [Cond.code y cc nL ret] rm (va_Pc As (WP Γ M)) (fun _ _ o t => o = .returned v ∧ WP Γ M' t) rm.cells rm.slots (fAg Γ)
def EndN (Γ : WC) (X : MX) (v : Option Value) (M' : Mem) (mc ms : Nat) : Prop := match X with
  | (_, _, _, s, _, args, below, _, _, Q) => Q = MQ below (fun _ _ o t => o = .returned v ∧ WP Γ M' t) args s mc ms (fAg Γ)
def xN (n : Nat) : String := match n with
  | 0 => "java/lang/IllegalStateException"
  | 1 => "java/lang/IndexOutOfBoundsException"
  | _ => "java/lang/IllegalArgumentException"
def QcT {α : Type} (Γ : WC) (tv : α → Option Value) (r : Except Nat α × Mem) : Array Value → State → Outcome → State → Prop := fun _ _ o t => ∃ x, r.1 = .ok x ∧ o = .returned (tv x) ∧ WP Γ r.2 t
def XcT {α : Type} (Γ : WC) (r : Except Nat α × Mem) : String → State → State → Prop := fun E _ t => ∃ n, r.1 = .error n ∧ E = xN n ∧ WPX Γ r.2 t
/-- contract of a method that returns or throws -/
def CtT {α : Type} (Γ : WC) (y : MethodName) (cc : ByteArray) (nL : Nat) (ret : Option FieldType) (rm : Room) (As : List Value) (M : Mem) (tv : α → Option Value) (r : Except Nat α × Mem) : Prop :=
  vx_Met (wl Γ) y [Cond.code y cc nL ret] rm (va_Pc As (WP Γ M)) (QcT Γ tv r) (XcT Γ r) rm.cells rm.slots (fAg Γ)
def EndT {α : Type} (Γ : WC) (X : MX) (tv : α → Option Value) (r : Except Nat α × Mem) (mc ms : Nat) : Prop := match X with
  | (_, _, _, s, _, args, below, _, c, Q) => Q = vx_MQ below (QcT Γ tv r) (XcT Γ r) args s mc ms (fAg Γ) ∧ ∀ x ∈ c.exceptionTable.toList, False
def rmL (n mc ms : Nat) : Room := { frames := n + 1, cells := mc, slots := ms, locals := 44 * (n + 1) }
theorem WP.blind {Γ : WC} {M : Mem} {As : List Value} : FrameBlind (va_Pc As (WP Γ M)) := fun _ _ _ _ h => h
theorem G.weak {Γ : WC} {X : MX} {M : Mem} {cs sl : Nat} {L K : List (Option Value)} {st : List Value} {pc : Nat} (hs : LSub L K) (k : G Γ X M cs sl L st pc) : G Γ X M cs sl K st pc := by
  obtain ⟨p, e, R, s, m, args, below, meth, c, Q⟩ := X
  intro H locs ls a1 a2 a3 a4 a5
  exact k H locs ls a1 a2 a3 a4 (lO_sub hs a5)
theorem mkCX {Γ : WC} (hG : HG Γ) {U : State} (h : (wU Γ).WarmedH U.vm) : va_K (wD Γ) vwCl (tysA (wA Γ)) U := va_K.moved h.alike hG.2.1
theorem mkN {Γ : WC} {y : MethodName} {own : String} {cc : ByteArray} {nL : Nat} {ret : Option FieldType} {rm : Room} {As : List Value} {M : Mem} {v : Option Value} {M' : Mem} (hG : HG Γ) (ho : y.cls = own) (hn : plainName y.cls = true) (hl : (lg_sl As).length ≤ nL)
    (body : ∀ X, CX Γ X cc nL own ret rm → EndN Γ X v M' rm.cells rm.slots → G Γ X M 0 0 (lE As) [] 0) : Ct Γ y cc nL ret rm As M v M' := by
  refine Met.ofW (cc := cc) (maxL := nL) (ret := ret) hn rfl ?_
  intro p e s m args below meth c s₁ B hml hv
  obtain ⟨rfl, hK, hW, hS, hP, hD⟩ := hv
  subst ho
  have hown : s.vm.findClass y.cls = some m.cls := findClass_of_methodNamed B.named
  have hb := body (p, e, rm, s, m, As.toArray, below, meth, c, MQ below (fun _ _ o t => o = .returned v ∧ WP Γ M' t) As.toArray s rm.cells rm.slots (fAg Γ))
    ⟨B.exec, B.bytes, hml, hown, fun w hw => hG.1 w hw _ _ hW, hW, B.notSynchronized, B.returns, rfl, mkCX hG hW, hS, hG⟩ rfl
  have hle := lv_entry As hl
  rw [lg_entry_eq]
  have h2 := hb s.heap [] _ hK hP hD hS (by rw [hml, lE_args]; exact hle)
  exact h2
theorem mkT {α : Type} {Γ : WC} {y : MethodName} {own : String} {cc : ByteArray} {nL : Nat} {ret : Option FieldType} {rm : Room} {As : List Value} {M : Mem} {tv : α → Option Value} {r : Except Nat α × Mem} (hG : HG Γ) (ho : y.cls = own) (hn : plainName y.cls = true) (hl : (lg_sl As).length ≤ nL)
    (body : ∀ X, CX Γ X cc nL own ret rm → EndT Γ X tv r rm.cells rm.slots → G Γ X M 0 0 (lE As) [] 0) : CtT Γ y cc nL ret rm As M tv r := by
  refine vx_ofW (cc := cc) (maxL := nL) (ret := ret) hn rfl ?_
  intro p e s m args below meth c s₁ B hml hno hv
  obtain ⟨rfl, hK, hW, hS, hP, hD⟩ := hv
  subst ho
  have hown : s.vm.findClass y.cls = some m.cls := findClass_of_methodNamed B.named
  have hb := body (p, e, rm, s, m, As.toArray, below, meth, c, vx_MQ below (QcT Γ tv r) (XcT Γ r) As.toArray s rm.cells rm.slots (fAg Γ))
    ⟨B.exec, B.bytes, hml, hown, fun w hw => hG.1 w hw _ _ hW, hW, B.notSynchronized, B.returns, rfl, mkCX hG hW, hS, hG⟩ ⟨rfl, hno⟩
  have hle := lv_entry As hl
  rw [lg_entry_eq]
  have h2 := hb s.heap [] _ hK hP hD hS (by rw [hml, lE_args]; exact hle)
  exact h2
end
section
/-! steps: an instruction each; 'hf' says what the function of the method still has to do, K what the machine does then -/
def bd {α β : Type} (x : α) (k : α → β) : β := k x
def jn {α β : Type} (rest : α) (body : α → β) : β := body rest
def inB (i : Int32) (n : Nat) : Bool := decide (0 ≤ i) && decide (i.toNatClampNeg < n)
def cl {α β : Type} (x : Option (α × Mem)) (k : α → Mem → Option β) : Option β := match x with
  | none => none
  | some (a, m) => k a m
def clT {α β : Type} (x : Option (Except Nat α × Mem)) (k : α → Mem → Option β) (ke : Nat → Mem → Option β) : Option β := match x with
  | none => none
  | some (.ok a, m) => k a m
  | some (.error e, m) => ke e m
def rdI {β : Type} (M : Mem) (o n : Nat) (i : Int32) (k : Int32 → Option β) : Option β := if inB i n = true then k (gI M o i.toNatClampNeg) else none
def rdL {β : Type} (M : Mem) (o n : Nat) (i : Int32) (k : Int64 → Option β) : Option β := if inB i n = true then k (gL M o i.toNatClampNeg) else none
def rdD {β : Type} (M : Mem) (o n : Nat) (i : Int32) (k : UInt64 → Option β) : Option β := if inB i n = true then k (gL M o i.toNatClampNeg).toUInt64 else none
def rdR {β : Type} (M : Mem) (o n : Nat) (i : Int32) (sh : List SE) (e : SE) (k : Nat → Option β) : Option β := if inB i n = true then (match gR M o i.toNatClampNeg with
  | some j => if sh[j]? = some e then k j else none
  | none => none) else none
def rfR {β : Type} (M : Mem) (o f : Nat) (sh : List SE) (e : SE) (k : Nat → Option β) : Option β := match gR M o f with
  | some j => if sh[j]? = some e then k j else none
  | none => none
def wrI {β : Type} (M : Mem) (o n : Nat) (i v : Int32) (k : Mem → Option β) : Option β := if inB i n = true then k (sI M o i.toNatClampNeg v) else none
def wrB {β : Type} (M : Mem) (o n : Nat) (i v : Int32) (k : Mem → Option β) : Option β := if inB i n = true then k (sI M o i.toNatClampNeg (vp_nar .byte v)) else none
def wrZ {β : Type} (M : Mem) (o n : Nat) (i v : Int32) (k : Mem → Option β) : Option β := if inB i n = true then k (sI M o i.toNatClampNeg (vp_nar .boolean v)) else none
def wrL {β : Type} (M : Mem) (o n : Nat) (i : Int32) (v : Int64) (k : Mem → Option β) : Option β := if inB i n = true then k (sL M o i.toNatClampNeg v) else none
def wrD {β : Type} (M : Mem) (o n : Nat) (i : Int32) (v : UInt64) (k : Mem → Option β) : Option β := if inB i n = true then k (sL M o i.toNatClampNeg v.toInt64) else none
def wrR {β : Type} (M : Mem) (o n : Nat) (i : Int32) (v : Nat) (k : Mem → Option β) : Option β := if inB i n = true then k (sR M o i.toNatClampNeg (some v)) else none
def nzI {β : Type} (y : Int32) (k : Option β) : Option β := if y = 0 then none else k
def nzL {β : Type} (y : Int64) (k : Option β) : Option β := if y = 0 then none else k
theorem inB_in {i : Int32} {n : Nat} (h : inB i n = true) : vp_in i n := by
  simp only [inB, Bool.and_eq_true, decide_eq_true_eq] at h
  rintro (z | z)
  · exact (Int32.lt_irrefl (Int32.lt_of_lt_of_le z h.1)).elim
  · omega
theorem if_then {c : Prop} {inst : Decidable c} {β : Type} {a b : Option β} {r : β} {P : Prop} (h : (if c then a else b) = some r) (h1 : c → a = some r → P) (h2 : ¬ c → b = some r → P) : P := by
  by_cases z : c
  · rw [if_pos z] at h; exact h1 z h
  · rw [if_neg z] at h; exact h2 z h
theorem if_some {c : Prop} {inst : Decidable c} {β : Type} {a : Option β} {r : β} (h : (if c then a else none) = some r) : c ∧ a = some r := if_then h (fun x y => ⟨x, y⟩) (fun _ y => nomatch y)
/-- a field that an instruction names: class, place, kind -/
def FLk (own : String) (idx ci k kind : Nat) : Prop := ∃ C T N, vwCl[ci]? = some (C, T, N) ∧ k < N ∧ kFd ci k = kind ∧ (∀ w ∈ u_ws C T N, Gd w) ∧ Gd (.fieldLink own idx (T k).1 (T k).2.1 (T k).2.2.1)
/-- .. that may be stored: what its type keeps -/
def FPk (own : String) (idx ci k kind : Nat) (fin : Bool) (ok : Value → Prop) : Prop := ∃ C T N, ∃ t : Nat → FieldType, vwCl[ci]? = some (C, T, N) ∧ k < N ∧ kFd ci k = kind ∧ (∀ w ∈ u_ws C T N, Gd w) ∧ Gd (.fieldLink own idx (T k).1 (T k).2.1 (T k).2.2.1) ∧
  (T k).2.2.2 = fin ∧ (fin = true → (T k).1 = own) ∧ (∀ k, k < N → parseFieldDescriptor (T k).2.2.1 = some (t k)) ∧ (∀ a, a < N → ∀ b, b < N → a ≠ b → (T a).2.1 ≠ (T b).2.1) ∧ (∀ v, ok v → narrow (t k) v = v ∧ fits (t k) v = true)
/-- words of a method that is called -/
def MW (y : MethodName) (bytes : ByteArray) (maxL : Nat) (rt : Option FieldType) (n : Nat) : Prop := Gd (.initialized y.cls) ∧ Gd (.code y bytes maxL rt) ∧ (y.cls ≠ "java/lang/invoke/MethodHandle" ∧ y.cls ≠ "java/lang/invoke/VarHandle") ∧ (parseMethodDescriptor y.desc).map (fun d => d.parameters.length) = some n
theorem fsO_at {ad : Nat → Nat} {M : Mem} {o ci k : Nat} (hk : k < nFd ci) : (fsO ad M o ci)[k]? = some (fVal ad M o k (kFd ci k)) := by
  simp only [fsO, List.getElem?_map, List.getElem?_range hk, Option.map_some]
theorem fsO_len {ad : Nat → Nat} {M : Mem} {o ci : Nat} : (fsO ad M o ci).length = nFd ci := by simp [fsO]
theorem nFd_of {ci : Nat} {C : String} {T : u_T} {N : Nat} (h : vwCl[ci]? = some (C, T, N)) : nFd ci = N := by simp only [nFd, h]
theorem fsO_set {ad : Nat → Nat} {M M' : Mem} {o ci k : Nat} (hk : k < nFd ci) (ho : ∀ j q, j ≠ k → fVal ad M' o j q = fVal ad M o j q) : (fsO ad M o ci).set k (fVal ad M' o k (kFd ci k)) = fsO ad M' o ci := by
  apply List.ext_getElem?
  intro i
  by_cases hi : i = k
  · subst hi
    rw [List.getElem?_set_self (by rw [fsO_len]; exact hk), fsO_at hk]
  · rw [List.getElem?_set_ne (Ne.symm hi)]
    by_cases hl : i < nFd ci
    · rw [fsO_at hl, fsO_at hl, ho i _ hi]
    · rw [List.getElem?_eq_none (by rw [fsO_len]; omega), List.getElem?_eq_none (by rw [fsO_len]; omega)]
section Steps1
variable {Γ : WC} {X : MX} {M : Mem} {cs sl : Nat} {L : List (Option Value)} {st : List Value} {pc : Nat} {cc : ByteArray} {nL : Nat} {own : String} {ret : Option FieldType} {R0 : Room}
theorem x_iadd (C : CX Γ X cc nL own ret R0) {x y : Int32} (d : decode cc pc = .ok (.iadd, 1)) (q : Nat) (hq : pc + 1 = q) (k : G Γ X M cs sl L (.int (x + y) :: st) q) : G Γ X M cs sl L (.int y :: .int x :: st) pc := by
  subst hq
  obtain ⟨p, e, R, s, m, args, below, meth, c, Q⟩ := X
  obtain ⟨hx, hb, hml, hown, hts, hW, hlk, hret, hR, hK, hSs, hG⟩ := C
  intro H locs ls a1 a2 a3 a4 a5
  exact lv_iadd hx hb d (k H locs ls a1 a2 a3 a4 a5)
theorem x_isub (C : CX Γ X cc nL own ret R0) {x y : Int32} (d : decode cc pc = .ok (.isub, 1)) (q : Nat) (hq : pc + 1 = q) (k : G Γ X M cs sl L (.int (x - y) :: st) q) : G Γ X M cs sl L (.int y :: .int x :: st) pc := by
  subst hq
  obtain ⟨p, e, R, s, m, args, below, meth, c, Q⟩ := X
  obtain ⟨hx, hb, hml, hown, hts, hW, hlk, hret, hR, hK, hSs, hG⟩ := C
  intro H locs ls a1 a2 a3 a4 a5
  exact lv_isub hx hb d (k H locs ls a1 a2 a3 a4 a5)
theorem x_imul (C : CX Γ X cc nL own ret R0) {x y : Int32} (d : decode cc pc = .ok (.imul, 1)) (q : Nat) (hq : pc + 1 = q) (k : G Γ X M cs sl L (.int (x * y) :: st) q) : G Γ X M cs sl L (.int y :: .int x :: st) pc := by
  subst hq
  obtain ⟨p, e, R, s, m, args, below, meth, c, Q⟩ := X
  obtain ⟨hx, hb, hml, hown, hts, hW, hlk, hret, hR, hK, hSs, hG⟩ := C
  intro H locs ls a1 a2 a3 a4 a5
  exact lv_imul hx hb d (k H locs ls a1 a2 a3 a4 a5)
theorem x_iand (C : CX Γ X cc nL own ret R0) {x y : Int32} (d : decode cc pc = .ok (.iand, 1)) (q : Nat) (hq : pc + 1 = q) (k : G Γ X M cs sl L (.int (x &&& y) :: st) q) : G Γ X M cs sl L (.int y :: .int x :: st) pc := by
  subst hq
  obtain ⟨p, e, R, s, m, args, below, meth, c, Q⟩ := X
  obtain ⟨hx, hb, hml, hown, hts, hW, hlk, hret, hR, hK, hSs, hG⟩ := C
  intro H locs ls a1 a2 a3 a4 a5
  exact lv_iand hx hb d (k H locs ls a1 a2 a3 a4 a5)
theorem x_ior (C : CX Γ X cc nL own ret R0) {x y : Int32} (d : decode cc pc = .ok (.ior, 1)) (q : Nat) (hq : pc + 1 = q) (k : G Γ X M cs sl L (.int (x ||| y) :: st) q) : G Γ X M cs sl L (.int y :: .int x :: st) pc := by
  subst hq
  obtain ⟨p, e, R, s, m, args, below, meth, c, Q⟩ := X
  obtain ⟨hx, hb, hml, hown, hts, hW, hlk, hret, hR, hK, hSs, hG⟩ := C
  intro H locs ls a1 a2 a3 a4 a5
  exact lv_ior hx hb d (k H locs ls a1 a2 a3 a4 a5)
theorem x_ixor (C : CX Γ X cc nL own ret R0) {x y : Int32} (d : decode cc pc = .ok (.ixor, 1)) (q : Nat) (hq : pc + 1 = q) (k : G Γ X M cs sl L (.int (x ^^^ y) :: st) q) : G Γ X M cs sl L (.int y :: .int x :: st) pc := by
  subst hq
  obtain ⟨p, e, R, s, m, args, below, meth, c, Q⟩ := X
  obtain ⟨hx, hb, hml, hown, hts, hW, hlk, hret, hR, hK, hSs, hG⟩ := C
  intro H locs ls a1 a2 a3 a4 a5
  exact lv_ixor hx hb d (k H locs ls a1 a2 a3 a4 a5)
theorem x_ishl (C : CX Γ X cc nL own ret R0) {x y : Int32} (d : decode cc pc = .ok (.ishl, 1)) (q : Nat) (hq : pc + 1 = q) (k : G Γ X M cs sl L (.int (x <<< (y &&& 31)) :: st) q) : G Γ X M cs sl L (.int y :: .int x :: st) pc := by
  subst hq
  obtain ⟨p, e, R, s, m, args, below, meth, c, Q⟩ := X
  obtain ⟨hx, hb, hml, hown, hts, hW, hlk, hret, hR, hK, hSs, hG⟩ := C
  intro H locs ls a1 a2 a3 a4 a5
  exact lv_ishl hx hb d (k H locs ls a1 a2 a3 a4 a5)
theorem x_ishr (C : CX Γ X cc nL own ret R0) {x y : Int32} (d : decode cc pc = .ok (.ishr, 1)) (q : Nat) (hq : pc + 1 = q) (k : G Γ X M cs sl L (.int (x >>> (y &&& 31)) :: st) q) : G Γ X M cs sl L (.int y :: .int x :: st) pc := by
  subst hq
  obtain ⟨p, e, R, s, m, args, below, meth, c, Q⟩ := X
  obtain ⟨hx, hb, hml, hown, hts, hW, hlk, hret, hR, hK, hSs, hG⟩ := C
  intro H locs ls a1 a2 a3 a4 a5
  exact lv_ishr hx hb d (k H locs ls a1 a2 a3 a4 a5)
theorem x_ladd (C : CX Γ X cc nL own ret R0) {x y : Int64} (d : decode cc pc = .ok (.ladd, 1)) (q : Nat) (hq : pc + 1 = q) (k : G Γ X M cs sl L (.long (x + y) :: st) q) : G Γ X M cs sl L (.long y :: .long x :: st) pc := by
  subst hq
  obtain ⟨p, e, R, s, m, args, below, meth, c, Q⟩ := X
  obtain ⟨hx, hb, hml, hown, hts, hW, hlk, hret, hR, hK, hSs, hG⟩ := C
  intro H locs ls a1 a2 a3 a4 a5
  exact lv_ladd hx hb d (k H locs ls a1 a2 a3 a4 a5)
theorem x_lsub (C : CX Γ X cc nL own ret R0) {x y : Int64} (d : decode cc pc = .ok (.lsub, 1)) (q : Nat) (hq : pc + 1 = q) (k : G Γ X M cs sl L (.long (x - y) :: st) q) : G Γ X M cs sl L (.long y :: .long x :: st) pc := by
  subst hq
  obtain ⟨p, e, R, s, m, args, below, meth, c, Q⟩ := X
  obtain ⟨hx, hb, hml, hown, hts, hW, hlk, hret, hR, hK, hSs, hG⟩ := C
  intro H locs ls a1 a2 a3 a4 a5
  exact lv_lsub hx hb d (k H locs ls a1 a2 a3 a4 a5)
theorem x_lmul (C : CX Γ X cc nL own ret R0) {x y : Int64} (d : decode cc pc = .ok (.lmul, 1)) (q : Nat) (hq : pc + 1 = q) (k : G Γ X M cs sl L (.long (x * y) :: st) q) : G Γ X M cs sl L (.long y :: .long x :: st) pc := by
  subst hq
  obtain ⟨p, e, R, s, m, args, below, meth, c, Q⟩ := X
  obtain ⟨hx, hb, hml, hown, hts, hW, hlk, hret, hR, hK, hSs, hG⟩ := C
  intro H locs ls a1 a2 a3 a4 a5
  exact lv_lmul hx hb d (k H locs ls a1 a2 a3 a4 a5)
theorem x_ineg (C : CX Γ X cc nL own ret R0) {x : Int32} (d : decode cc pc = .ok (.ineg, 1)) (q : Nat) (hq : pc + 1 = q) (k : G Γ X M cs sl L (.int (-x) :: st) q) : G Γ X M cs sl L (.int x :: st) pc := by
  subst hq
  obtain ⟨p, e, R, s, m, args, below, meth, c, Q⟩ := X
  obtain ⟨hx, hb, hml, hown, hts, hW, hlk, hret, hR, hK, hSs, hG⟩ := C
  intro H locs ls a1 a2 a3 a4 a5
  exact lv_ineg hx hb d (k H locs ls a1 a2 a3 a4 a5)
theorem x_i2l (C : CX Γ X cc nL own ret R0) {x : Int32} (d : decode cc pc = .ok (.i2l, 1)) (q : Nat) (hq : pc + 1 = q) (k : G Γ X M cs sl L (.long x.toInt64 :: st) q) : G Γ X M cs sl L (.int x :: st) pc := by
  subst hq
  obtain ⟨p, e, R, s, m, args, below, meth, c, Q⟩ := X
  obtain ⟨hx, hb, hml, hown, hts, hW, hlk, hret, hR, hK, hSs, hG⟩ := C
  intro H locs ls a1 a2 a3 a4 a5
  exact lv_i2l hx hb d rfl (k H locs ls a1 a2 a3 a4 a5)
theorem x_l2i (C : CX Γ X cc nL own ret R0) {x : Int64} (d : decode cc pc = .ok (.l2i, 1)) (q : Nat) (hq : pc + 1 = q) (k : G Γ X M cs sl L (.int x.toInt32 :: st) q) : G Γ X M cs sl L (.long x :: st) pc := by
  subst hq
  obtain ⟨p, e, R, s, m, args, below, meth, c, Q⟩ := X
  obtain ⟨hx, hb, hml, hown, hts, hW, hlk, hret, hR, hK, hSs, hG⟩ := C
  intro H locs ls a1 a2 a3 a4 a5
  exact lv_l2i hx hb d rfl (k H locs ls a1 a2 a3 a4 a5)
theorem x_i2b (C : CX Γ X cc nL own ret R0) {x : Int32} (d : decode cc pc = .ok (.i2b, 1)) (q : Nat) (hq : pc + 1 = q) (k : G Γ X M cs sl L (.int x.toInt8.toInt32 :: st) q) : G Γ X M cs sl L (.int x :: st) pc := by
  subst hq
  obtain ⟨p, e, R, s, m, args, below, meth, c, Q⟩ := X
  obtain ⟨hx, hb, hml, hown, hts, hW, hlk, hret, hR, hK, hSs, hG⟩ := C
  intro H locs ls a1 a2 a3 a4 a5
  exact lv_i2b hx hb d rfl (k H locs ls a1 a2 a3 a4 a5)
theorem x_l2f (C : CX Γ X cc nL own ret R0) {x : Int64} (d : decode cc pc = .ok (.l2f, 1)) (q : Nat) (hq : pc + 1 = q) (k : G Γ X M cs sl L (.float (FP.l2f x) :: st) q) : G Γ X M cs sl L (.long x :: st) pc := by
  subst hq
  obtain ⟨p, e, R, s, m, args, below, meth, c, Q⟩ := X
  obtain ⟨hx, hb, hml, hown, hts, hW, hlk, hret, hR, hK, hSs, hG⟩ := C
  intro H locs ls a1 a2 a3 a4 a5
  exact lv_l2f hx hb d (k H locs ls a1 a2 a3 a4 a5)
theorem x_fconst0 (C : CX Γ X cc nL own ret R0) (d : decode cc pc = .ok (.fconst 0, 1)) (q : Nat) (hq : pc + 1 = q) (k : G Γ X M cs sl L (.float FP.fconst0 :: st) q) : G Γ X M cs sl L st pc := by
  subst hq
  obtain ⟨p, e, R, s, m, args, below, meth, c, Q⟩ := X
  obtain ⟨hx, hb, hml, hown, hts, hW, hlk, hret, hR, hK, hSs, hG⟩ := C
  intro H locs ls a1 a2 a3 a4 a5
  exact lv_fconst0 hx hb d (k H locs ls a1 a2 a3 a4 a5)
theorem x_fdiv (C : CX Γ X cc nL own ret R0) {x y : UInt32} (hn : vf_n32 (FP.fdiv x y)) (d : decode cc pc = .ok (.fdiv, 1)) (q : Nat) (hq : pc + 1 = q) (k : G Γ X M cs sl L (.float (FP.fdiv x y) :: st) q) : G Γ X M cs sl L (.float y :: .float x :: st) pc := by
  subst hq
  obtain ⟨p, e, R, s, m, args, below, meth, c, Q⟩ := X
  obtain ⟨hx, hb, hml, hown, hts, hW, hlk, hret, hR, hK, hSs, hG⟩ := C
  intro H locs ls a1 a2 a3 a4 a5
  exact lv_fdiv hx hb d hn (k H locs ls a1 a2 a3 a4 a5)
theorem x_f2d (C : CX Γ X cc nL own ret R0) {x : UInt32} (hn : vf_n64 (FP.f2d x)) (d : decode cc pc = .ok (.f2d, 1)) (q : Nat) (hq : pc + 1 = q) (k : G Γ X M cs sl L (.double (FP.f2d x) :: st) q) : G Γ X M cs sl L (.float x :: st) pc := by
  subst hq
  obtain ⟨p, e, R, s, m, args, below, meth, c, Q⟩ := X
  obtain ⟨hx, hb, hml, hown, hts, hW, hlk, hret, hR, hK, hSs, hG⟩ := C
  intro H locs ls a1 a2 a3 a4 a5
  exact lv_f2d hx hb d hn (k H locs ls a1 a2 a3 a4 a5)
theorem x_dcmp (C : CX Γ X cc nL own ret R0) {x y : UInt64} {op : CmpOp} (d : decode cc pc = .ok (.dcmp op, 1)) (q : Nat) (hq : pc + 1 = q) (k : G Γ X M cs sl L (.int (Op.cmpValue (FP.dcmp x y) op) :: st) q) : G Γ X M cs sl L (.double y :: .double x :: st) pc := by
  subst hq
  obtain ⟨p, e, R, s, m, args, below, meth, c, Q⟩ := X
  obtain ⟨hx, hb, hml, hown, hts, hW, hlk, hret, hR, hK, hSs, hG⟩ := C
  intro H locs ls a1 a2 a3 a4 a5
  exact lv_dcmp hx hb d (k H locs ls a1 a2 a3 a4 a5)
theorem x_fcmp (C : CX Γ X cc nL own ret R0) {x y : UInt32} {op : CmpOp} (d : decode cc pc = .ok (.fcmp op, 1)) (q : Nat) (hq : pc + 1 = q) (k : G Γ X M cs sl L (.int (Op.cmpValue (FP.fcmp x y) op) :: st) q) : G Γ X M cs sl L (.float y :: .float x :: st) pc := by
  subst hq
  obtain ⟨p, e, R, s, m, args, below, meth, c, Q⟩ := X
  obtain ⟨hx, hb, hml, hown, hts, hW, hlk, hret, hR, hK, hSs, hG⟩ := C
  intro H locs ls a1 a2 a3 a4 a5
  exact lv_fcmp hx hb d (k H locs ls a1 a2 a3 a4 a5)
theorem x_dup (C : CX Γ X cc nL own ret R0) {v : Value} (hv : v.category = 1) (d : decode cc pc = .ok (.dup, 1)) (q : Nat) (hq : pc + 1 = q) (k : G Γ X M cs sl L (v :: v :: st) q) : G Γ X M cs sl L (v :: st) pc := by
  subst hq
  obtain ⟨p, e, R, s, m, args, below, meth, c, Q⟩ := X
  obtain ⟨hx, hb, hml, hown, hts, hW, hlk, hret, hR, hK, hSs, hG⟩ := C
  intro H locs ls a1 a2 a3 a4 a5
  exact lv_dup hx hb d hv (k H locs ls a1 a2 a3 a4 a5)
theorem x_dup2 (C : CX Γ X cc nL own ret R0) {v u : Value} (hv : v.category = 1) (hu : u.category = 1) (d : decode cc pc = .ok (.dup2, 1)) (q : Nat) (hq : pc + 1 = q) (k : G Γ X M cs sl L (v :: u :: v :: u :: st) q) : G Γ X M cs sl L (v :: u :: st) pc := by
  subst hq
  obtain ⟨p, e, R, s, m, args, below, meth, c, Q⟩ := X
  obtain ⟨hx, hb, hml, hown, hts, hW, hlk, hret, hR, hK, hSs, hG⟩ := C
  intro H locs ls a1 a2 a3 a4 a5
  exact lv_dup2_11 hx hb d hv hu (k H locs ls a1 a2 a3 a4 a5)
theorem x_pop2 (C : CX Γ X cc nL own ret R0) {v : Value} (hv : v.category = 2) (d : decode cc pc = .ok (.pop2, 1)) (q : Nat) (hq : pc + 1 = q) (k : G Γ X M cs sl L st q) : G Γ X M cs sl L (v :: st) pc := by
  subst hq
  obtain ⟨p, e, R, s, m, args, below, meth, c, Q⟩ := X
  obtain ⟨hx, hb, hml, hown, hts, hW, hlk, hret, hR, hK, hSs, hG⟩ := C
  intro H locs ls a1 a2 a3 a4 a5
  exact lv_pop2_2 hx hb d hv (k H locs ls a1 a2 a3 a4 a5)
theorem x_pop (C : CX Γ X cc nL own ret R0) {v : Value} (hv : v.category = 1) (d : decode cc pc = .ok (.pop, 1)) (q : Nat) (hq : pc + 1 = q) (k : G Γ X M cs sl L st q) : G Γ X M cs sl L (v :: st) pc := by
  subst hq
  obtain ⟨p, e, R, s, m, args, below, meth, c, Q⟩ := X
  obtain ⟨hx, hb, hml, hown, hts, hW, hlk, hret, hR, hK, hSs, hG⟩ := C
  intro H locs ls a1 a2 a3 a4 a5
  exact lv_pop hx hb d hv (k H locs ls a1 a2 a3 a4 a5)
theorem x_iconst (C : CX Γ X cc nL own ret R0) {n : Int} {v : Int32} (hv : Int32.ofInt n = v) (d : decode cc pc = .ok (.iconst n, 1)) (q : Nat) (hq : pc + 1 = q) (k : G Γ X M cs sl L (.int v :: st) q) : G Γ X M cs sl L st pc := by
  subst hq
  obtain ⟨p, e, R, s, m, args, below, meth, c, Q⟩ := X
  obtain ⟨hx, hb, hml, hown, hts, hW, hlk, hret, hR, hK, hSs, hG⟩ := C
  intro H locs ls a1 a2 a3 a4 a5
  exact lv_iconst hx hb d hv (k H locs ls a1 a2 a3 a4 a5)
theorem x_bipush (C : CX Γ X cc nL own ret R0) {n : Int} {v : Int32} (hv : (Int8.ofInt n).toInt32 = v) (d : decode cc pc = .ok (.bipush n, 2)) (q : Nat) (hq : pc + 2 = q) (k : G Γ X M cs sl L (.int v :: st) q) : G Γ X M cs sl L st pc := by
  subst hq
  obtain ⟨p, e, R, s, m, args, below, meth, c, Q⟩ := X
  obtain ⟨hx, hb, hml, hown, hts, hW, hlk, hret, hR, hK, hSs, hG⟩ := C
  intro H locs ls a1 a2 a3 a4 a5
  exact lv_bipush hx hb d hv (k H locs ls a1 a2 a3 a4 a5)
theorem x_sipush (C : CX Γ X cc nL own ret R0) {n : Int} {v : Int32} (hv : (Int16.ofInt n).toInt32 = v) (d : decode cc pc = .ok (.sipush n, 3)) (q : Nat) (hq : pc + 3 = q) (k : G Γ X M cs sl L (.int v :: st) q) : G Γ X M cs sl L st pc := by
  subst hq
  obtain ⟨p, e, R, s, m, args, below, meth, c, Q⟩ := X
  obtain ⟨hx, hb, hml, hown, hts, hW, hlk, hret, hR, hK, hSs, hG⟩ := C
  intro H locs ls a1 a2 a3 a4 a5
  exact lv_sipush hx hb d hv (k H locs ls a1 a2 a3 a4 a5)
theorem x_lconst (C : CX Γ X cc nL own ret R0) {n : Fin 2} {v : Int64} (hv : Int64.ofNat (n : Nat) = v) (d : decode cc pc = .ok (.lconst n, 1)) (q : Nat) (hq : pc + 1 = q) (k : G Γ X M cs sl L (.long v :: st) q) : G Γ X M cs sl L st pc := by
  subst hq
  obtain ⟨p, e, R, s, m, args, below, meth, c, Q⟩ := X
  obtain ⟨hx, hb, hml, hown, hts, hW, hlk, hret, hR, hK, hSs, hG⟩ := C
  intro H locs ls a1 a2 a3 a4 a5
  exact lv_lconst hx hb d hv (k H locs ls a1 a2 a3 a4 a5)
theorem x_ldc2 (C : CX Γ X cc nL own ret R0) {index : Nat} {v : Int64} (hc : Gd (.constantLong own index v)) (d : decode cc pc = .ok (.ldc2_w index, 3)) (q : Nat) (hq : pc + 3 = q) (k : G Γ X M cs sl L (.long v :: st) q) : G Γ X M cs sl L st pc := by
  subst hq
  obtain ⟨p, e, R, s, m, args, below, meth, c, Q⟩ := X
  obtain ⟨hx, hb, hml, hown, hts, hW, hlk, hret, hR, hK, hSs, hG⟩ := C
  intro H locs ls a1 a2 a3 a4 a5
  exact lv_ldc2 hx hb hown (hts _ hc) d (k H locs ls a1 a2 a3 a4 a5)
theorem x_iload_n (C : CX Γ X cc nL own ret R0) {kf : Fin 4} {i : Nat} {x : Int32} (hi : (kf : Nat) = i) (h : lget L i = some (.int x)) (d : decode cc pc = .ok (.iload_n kf, 1)) (q : Nat) (hq : pc + 1 = q) (k : G Γ X M cs sl L (.int x :: st) q) : G Γ X M cs sl L st pc := by
  subst hq
  obtain ⟨p, e, R, s, m, args, below, meth, c, Q⟩ := X
  obtain ⟨hx, hb, hml, hown, hts, hW, hlk, hret, hR, hK, hSs, hG⟩ := C
  intro H locs ls a1 a2 a3 a4 a5
  exact lv_iload_n hx hb d hi (lO_at a5 h) (k H locs ls a1 a2 a3 a4 a5)
theorem x_iload (C : CX Γ X cc nL own ret R0) {i : Nat} {x : Int32} (h : lget L i = some (.int x)) (d : decode cc pc = .ok (.iload i, 2)) (q : Nat) (hq : pc + 2 = q) (k : G Γ X M cs sl L (.int x :: st) q) : G Γ X M cs sl L st pc := by
  subst hq
  obtain ⟨p, e, R, s, m, args, below, meth, c, Q⟩ := X
  obtain ⟨hx, hb, hml, hown, hts, hW, hlk, hret, hR, hK, hSs, hG⟩ := C
  intro H locs ls a1 a2 a3 a4 a5
  exact lv_iload hx hb d (lO_at a5 h) (k H locs ls a1 a2 a3 a4 a5)
theorem x_lload_n (C : CX Γ X cc nL own ret R0) {kf : Fin 4} {i : Nat} {x : Int64} (hi : (kf : Nat) = i) (h : lget L i = some (.long x)) (d : decode cc pc = .ok (.lload_n kf, 1)) (q : Nat) (hq : pc + 1 = q) (k : G Γ X M cs sl L (.long x :: st) q) : G Γ X M cs sl L st pc := by
  subst hq
  obtain ⟨p, e, R, s, m, args, below, meth, c, Q⟩ := X
  obtain ⟨hx, hb, hml, hown, hts, hW, hlk, hret, hR, hK, hSs, hG⟩ := C
  intro H locs ls a1 a2 a3 a4 a5
  exact lv_lload_n hx hb d hi (lO_at a5 h) (k H locs ls a1 a2 a3 a4 a5)
theorem x_lload (C : CX Γ X cc nL own ret R0) {i : Nat} {x : Int64} (h : lget L i = some (.long x)) (d : decode cc pc = .ok (.lload i, 2)) (q : Nat) (hq : pc + 2 = q) (k : G Γ X M cs sl L (.long x :: st) q) : G Γ X M cs sl L st pc := by
  subst hq
  obtain ⟨p, e, R, s, m, args, below, meth, c, Q⟩ := X
  obtain ⟨hx, hb, hml, hown, hts, hW, hlk, hret, hR, hK, hSs, hG⟩ := C
  intro H locs ls a1 a2 a3 a4 a5
  exact lv_lload hx hb d (lO_at a5 h) (k H locs ls a1 a2 a3 a4 a5)
theorem x_aload_n (C : CX Γ X cc nL own ret R0) {kf : Fin 4} {i : Nat} {x : Nat} (hi : (kf : Nat) = i) (h : lget L i = some (.ref x)) (d : decode cc pc = .ok (.aload_n kf, 1)) (q : Nat) (hq : pc + 1 = q) (k : G Γ X M cs sl L (.ref x :: st) q) : G Γ X M cs sl L st pc := by
  subst hq
  obtain ⟨p, e, R, s, m, args, below, meth, c, Q⟩ := X
  obtain ⟨hx, hb, hml, hown, hts, hW, hlk, hret, hR, hK, hSs, hG⟩ := C
  intro H locs ls a1 a2 a3 a4 a5
  exact lv_aload_n hx hb d hi (lO_at a5 h) (k H locs ls a1 a2 a3 a4 a5)
theorem x_aload (C : CX Γ X cc nL own ret R0) {i : Nat} {x : Nat} (h : lget L i = some (.ref x)) (d : decode cc pc = .ok (.aload i, 2)) (q : Nat) (hq : pc + 2 = q) (k : G Γ X M cs sl L (.ref x :: st) q) : G Γ X M cs sl L st pc := by
  subst hq
  obtain ⟨p, e, R, s, m, args, below, meth, c, Q⟩ := X
  obtain ⟨hx, hb, hml, hown, hts, hW, hlk, hret, hR, hK, hSs, hG⟩ := C
  intro H locs ls a1 a2 a3 a4 a5
  exact lv_aload hx hb d (lO_at a5 h) (k H locs ls a1 a2 a3 a4 a5)
theorem x_fload_n (C : CX Γ X cc nL own ret R0) {kf : Fin 4} {i : Nat} {x : UInt32} (hi : (kf : Nat) = i) (h : lget L i = some (.float x)) (d : decode cc pc = .ok (.fload_n kf, 1)) (q : Nat) (hq : pc + 1 = q) (k : G Γ X M cs sl L (.float x :: st) q) : G Γ X M cs sl L st pc := by
  subst hq
  obtain ⟨p, e, R, s, m, args, below, meth, c, Q⟩ := X
  obtain ⟨hx, hb, hml, hown, hts, hW, hlk, hret, hR, hK, hSs, hG⟩ := C
  intro H locs ls a1 a2 a3 a4 a5
  exact lv_fload_n hx hb d hi (lO_at a5 h) (k H locs ls a1 a2 a3 a4 a5)
theorem x_fload (C : CX Γ X cc nL own ret R0) {i : Nat} {x : UInt32} (h : lget L i = some (.float x)) (d : decode cc pc = .ok (.fload i, 2)) (q : Nat) (hq : pc + 2 = q) (k : G Γ X M cs sl L (.float x :: st) q) : G Γ X M cs sl L st pc := by
  subst hq
  obtain ⟨p, e, R, s, m, args, below, meth, c, Q⟩ := X
  obtain ⟨hx, hb, hml, hown, hts, hW, hlk, hret, hR, hK, hSs, hG⟩ := C
  intro H locs ls a1 a2 a3 a4 a5
  exact lv_fload hx hb d (lO_at a5 h) (k H locs ls a1 a2 a3 a4 a5)
theorem x_istore_n (C : CX Γ X cc nL own ret R0) {k : Fin 4} {i : Nat} {x : Int32} {L1 : List (Option Value)} (d : decode cc pc = .ok (.istore_n k, 1)) (q : Nat) (hq : pc + 1 = q) (hi : (k : Nat) = i) (hn : i < nL) (hL : lset1 L i (.int x) = L1) (kk : G Γ X M cs sl L1 st q) : G Γ X M cs sl L (.int x :: st) pc := by
  subst hq
  obtain ⟨p, e, R, s, m, args, below, meth, c, Q⟩ := X
  obtain ⟨hx, hb, hml, hown, hts, hW, hlk, hret, hR, hK, hSs, hG⟩ := C
  intro H locs ls a1 a2 a3 a4 a5
  subst hL; subst hml
  exact lv_istore_n hx hb d hi a5 hn rfl (fun ls1 h1 => kk H locs ls1 a1 a2 a3 a4 (lO_set1 h1))
theorem x_istore (C : CX Γ X cc nL own ret R0) {i : Nat} {x : Int32} {L1 : List (Option Value)} (d : decode cc pc = .ok (.istore i, 2)) (q : Nat) (hq : pc + 2 = q) (hn : i < nL) (hL : lset1 L i (.int x) = L1) (kk : G Γ X M cs sl L1 st q) : G Γ X M cs sl L (.int x :: st) pc := by
  subst hq
  obtain ⟨p, e, R, s, m, args, below, meth, c, Q⟩ := X
  obtain ⟨hx, hb, hml, hown, hts, hW, hlk, hret, hR, hK, hSs, hG⟩ := C
  intro H locs ls a1 a2 a3 a4 a5
  subst hL; subst hml
  exact lv_istore hx hb d a5 hn rfl (fun ls1 h1 => kk H locs ls1 a1 a2 a3 a4 (lO_set1 h1))
theorem x_lstore_n (C : CX Γ X cc nL own ret R0) {k : Fin 4} {i : Nat} {x : Int64} {L1 : List (Option Value)} (d : decode cc pc = .ok (.lstore_n k, 1)) (q : Nat) (hq : pc + 1 = q) (hi : (k : Nat) = i) (hn : i + 1 < nL) (hL : lset2 L i (.long x) = L1) (kk : G Γ X M cs sl L1 st q) : G Γ X M cs sl L (.long x :: st) pc := by
  subst hq
  obtain ⟨p, e, R, s, m, args, below, meth, c, Q⟩ := X
  obtain ⟨hx, hb, hml, hown, hts, hW, hlk, hret, hR, hK, hSs, hG⟩ := C
  intro H locs ls a1 a2 a3 a4 a5
  subst hL; subst hml
  exact lv_lstore_n hx hb d hi a5 hn rfl (fun ls1 h1 => kk H locs ls1 a1 a2 a3 a4 (lO_set2 h1))
theorem x_lstore (C : CX Γ X cc nL own ret R0) {i : Nat} {x : Int64} {L1 : List (Option Value)} (d : decode cc pc = .ok (.lstore i, 2)) (q : Nat) (hq : pc + 2 = q) (hn : i + 1 < nL) (hL : lset2 L i (.long x) = L1) (kk : G Γ X M cs sl L1 st q) : G Γ X M cs sl L (.long x :: st) pc := by
  subst hq
  obtain ⟨p, e, R, s, m, args, below, meth, c, Q⟩ := X
  obtain ⟨hx, hb, hml, hown, hts, hW, hlk, hret, hR, hK, hSs, hG⟩ := C
  intro H locs ls a1 a2 a3 a4 a5
  subst hL; subst hml
  exact lv_lstore hx hb d a5 hn rfl (fun ls1 h1 => kk H locs ls1 a1 a2 a3 a4 (lO_set2 h1))
theorem x_astore_n (C : CX Γ X cc nL own ret R0) {k : Fin 4} {i : Nat} {x : Nat} {L1 : List (Option Value)} (d : decode cc pc = .ok (.astore_n k, 1)) (q : Nat) (hq : pc + 1 = q) (hi : (k : Nat) = i) (hn : i < nL) (hL : lset1 L i (.ref x) = L1) (kk : G Γ X M cs sl L1 st q) : G Γ X M cs sl L (.ref x :: st) pc := by
  subst hq
  obtain ⟨p, e, R, s, m, args, below, meth, c, Q⟩ := X
  obtain ⟨hx, hb, hml, hown, hts, hW, hlk, hret, hR, hK, hSs, hG⟩ := C
  intro H locs ls a1 a2 a3 a4 a5
  subst hL; subst hml
  exact lv_astore_n hx hb d hi a5 hn rfl (fun ls1 h1 => kk H locs ls1 a1 a2 a3 a4 (lO_set1 h1))
theorem x_astore (C : CX Γ X cc nL own ret R0) {i : Nat} {x : Nat} {L1 : List (Option Value)} (d : decode cc pc = .ok (.astore i, 2)) (q : Nat) (hq : pc + 2 = q) (hn : i < nL) (hL : lset1 L i (.ref x) = L1) (kk : G Γ X M cs sl L1 st q) : G Γ X M cs sl L (.ref x :: st) pc := by
  subst hq
  obtain ⟨p, e, R, s, m, args, below, meth, c, Q⟩ := X
  obtain ⟨hx, hb, hml, hown, hts, hW, hlk, hret, hR, hK, hSs, hG⟩ := C
  intro H locs ls a1 a2 a3 a4 a5
  subst hL; subst hml
  exact lv_astore hx hb d a5 hn rfl (fun ls1 h1 => kk H locs ls1 a1 a2 a3 a4 (lO_set1 h1))
theorem x_fstore_n (C : CX Γ X cc nL own ret R0) {k : Fin 4} {i : Nat} {x : UInt32} {L1 : List (Option Value)} (d : decode cc pc = .ok (.fstore_n k, 1)) (q : Nat) (hq : pc + 1 = q) (hi : (k : Nat) = i) (hn : i < nL) (hL : lset1 L i (.float x) = L1) (kk : G Γ X M cs sl L1 st q) : G Γ X M cs sl L (.float x :: st) pc := by
  subst hq
  obtain ⟨p, e, R, s, m, args, below, meth, c, Q⟩ := X
  obtain ⟨hx, hb, hml, hown, hts, hW, hlk, hret, hR, hK, hSs, hG⟩ := C
  intro H locs ls a1 a2 a3 a4 a5
  subst hL; subst hml
  exact lv_fstore_n hx hb d hi a5 hn rfl (fun ls1 h1 => kk H locs ls1 a1 a2 a3 a4 (lO_set1 h1))
theorem x_fstore (C : CX Γ X cc nL own ret R0) {i : Nat} {x : UInt32} {L1 : List (Option Value)} (d : decode cc pc = .ok (.fstore i, 2)) (q : Nat) (hq : pc + 2 = q) (hn : i < nL) (hL : lset1 L i (.float x) = L1) (kk : G Γ X M cs sl L1 st q) : G Γ X M cs sl L (.float x :: st) pc := by
  subst hq
  obtain ⟨p, e, R, s, m, args, below, meth, c, Q⟩ := X
  obtain ⟨hx, hb, hml, hown, hts, hW, hlk, hret, hR, hK, hSs, hG⟩ := C
  intro H locs ls a1 a2 a3 a4 a5
  subst hL; subst hml
  exact lv_fstore hx hb d a5 hn rfl (fun ls1 h1 => kk H locs ls1 a1 a2 a3 a4 (lO_set1 h1))
theorem x_iinc (C : CX Γ X cc nL own ret R0) {i : Nat} {n : Int} {x v : Int32} {L1 : List (Option Value)} (d : decode cc pc = .ok (.iinc i n, 3)) (q : Nat) (hq : pc + 3 = q) (h : lget L i = some (.int x)) (hv : x + Int32.ofInt n = v) (hn : i < nL) (hL : lset1 L i (.int v) = L1) (kk : G Γ X M cs sl L1 st q) : G Γ X M cs sl L st pc := by
  subst hq
  obtain ⟨p, e, R, s, m, args, below, meth, c, Q⟩ := X
  obtain ⟨hx, hb, hml, hown, hts, hW, hlk, hret, hR, hK, hSs, hG⟩ := C
  intro H locs ls a1 a2 a3 a4 a5
  subst hL; subst hml
  obtain ⟨j, hj⟩ := List.getElem?_of_mem (lO_mem 0 h)
  rw [Nat.zero_add] at hj
  exact lv_iinc hx hb d a5 hj hv hn rfl (fun ls1 h1 => kk H locs ls1 a1 a2 a3 a4 (lO_set1 h1))
theorem x_goto (C : CX Γ X cc nL own ret R0) {off : Int} (tgt : Nat) (d : decode cc pc = .ok (.goto off, 3)) (ht : (pc : Int) + off = (tgt : Int)) (k : G Γ X M cs sl L st tgt) : G Γ X M cs sl L st pc := by
  obtain ⟨p, e, R, s, m, args, below, meth, c, Q⟩ := X
  obtain ⟨hx, hb, hml, hown, hts, hW, hlk, hret, hR, hK, hSs, hG⟩ := C
  intro H locs ls a1 a2 a3 a4 a5
  exact lv_goto hx hb d ht (k H locs ls a1 a2 a3 a4 a5)
end Steps1
section Steps2
variable {Γ : WC} {X : MX} {M : Mem} {cs sl : Nat} {L : List (Option Value)} {st : List Value} {pc : Nat} {cc : ByteArray} {nL : Nat} {own : String} {ret : Option FieldType} {R0 : Room} {β : Type} {rM : β}
theorem x_if_eq (C : CX Γ X cc nL own ret R0) {x : Int32} {off : Int} {a b : Option β} (tgt : Nat) (d : decode cc pc = .ok (.ifCond .eq off, 3)) (q : Nat) (hq : pc + 3 = q) (ht : (pc : Int) + off = (tgt : Int)) (hf : (if x = 0 then a else b) = some rM) (kt : a = some rM → G Γ X M cs sl L st tgt) (kf : b = some rM → G Γ X M cs sl L st q) : G Γ X M cs sl L (.int x :: st) pc := by
  subst hq
  obtain ⟨p, e, R, s, m, args, below, meth, c, Q⟩ := X
  obtain ⟨hx, hb, hml, hown, hts, hW, hlk, hret, hR, hK, hSs, hG⟩ := C
  intro H locs ls a1 a2 a3 a4 a5
  exact lv_if_eq hx hb d ht (fun h => kt (by rw [if_pos h] at hf; exact hf) H locs ls a1 a2 a3 a4 a5) (fun h => kf (by rw [if_neg h] at hf; exact hf) H locs ls a1 a2 a3 a4 a5)
theorem x_if_ne (C : CX Γ X cc nL own ret R0) {x : Int32} {off : Int} {a b : Option β} (tgt : Nat) (d : decode cc pc = .ok (.ifCond .ne off, 3)) (q : Nat) (hq : pc + 3 = q) (ht : (pc : Int) + off = (tgt : Int)) (hf : (if x = 0 then b else a) = some rM) (kt : a = some rM → G Γ X M cs sl L st tgt) (kf : b = some rM → G Γ X M cs sl L st q) : G Γ X M cs sl L (.int x :: st) pc := by
  subst hq
  obtain ⟨p, e, R, s, m, args, below, meth, c, Q⟩ := X
  obtain ⟨hx, hb, hml, hown, hts, hW, hlk, hret, hR, hK, hSs, hG⟩ := C
  intro H locs ls a1 a2 a3 a4 a5
  exact lv_if_ne hx hb d ht (fun h => kt (by rw [if_neg h] at hf; exact hf) H locs ls a1 a2 a3 a4 a5) (fun h => kf (by rw [if_pos h] at hf; exact hf) H locs ls a1 a2 a3 a4 a5)
theorem x_if_lt (C : CX Γ X cc nL own ret R0) {x : Int32} {off : Int} {a b : Option β} (tgt : Nat) (d : decode cc pc = .ok (.ifCond .lt off, 3)) (q : Nat) (hq : pc + 3 = q) (ht : (pc : Int) + off = (tgt : Int)) (hf : (if x < 0 then a else b) = some rM) (kt : a = some rM → G Γ X M cs sl L st tgt) (kf : b = some rM → G Γ X M cs sl L st q) : G Γ X M cs sl L (.int x :: st) pc := by
  subst hq
  obtain ⟨p, e, R, s, m, args, below, meth, c, Q⟩ := X
  obtain ⟨hx, hb, hml, hown, hts, hW, hlk, hret, hR, hK, hSs, hG⟩ := C
  intro H locs ls a1 a2 a3 a4 a5
  exact lv_if_lt hx hb d ht (fun h => kt (by rw [if_pos h] at hf; exact hf) H locs ls a1 a2 a3 a4 a5) (fun h => kf (by rw [if_neg h] at hf; exact hf) H locs ls a1 a2 a3 a4 a5)
theorem x_if_ge (C : CX Γ X cc nL own ret R0) {x : Int32} {off : Int} {a b : Option β} (tgt : Nat) (d : decode cc pc = .ok (.ifCond .ge off, 3)) (q : Nat) (hq : pc + 3 = q) (ht : (pc : Int) + off = (tgt : Int)) (hf : (if 0 ≤ x then a else b) = some rM) (kt : a = some rM → G Γ X M cs sl L st tgt) (kf : b = some rM → G Γ X M cs sl L st q) : G Γ X M cs sl L (.int x :: st) pc := by
  subst hq
  obtain ⟨p, e, R, s, m, args, below, meth, c, Q⟩ := X
  obtain ⟨hx, hb, hml, hown, hts, hW, hlk, hret, hR, hK, hSs, hG⟩ := C
  intro H locs ls a1 a2 a3 a4 a5
  exact lv_if_ge hx hb d ht (fun h => kt (by rw [if_pos h] at hf; exact hf) H locs ls a1 a2 a3 a4 a5) (fun h => kf (by rw [if_neg h] at hf; exact hf) H locs ls a1 a2 a3 a4 a5)
theorem x_if_gt (C : CX Γ X cc nL own ret R0) {x : Int32} {off : Int} {a b : Option β} (tgt : Nat) (d : decode cc pc = .ok (.ifCond .gt off, 3)) (q : Nat) (hq : pc + 3 = q) (ht : (pc : Int) + off = (tgt : Int)) (hf : (if 0 < x then a else b) = some rM) (kt : a = some rM → G Γ X M cs sl L st tgt) (kf : b = some rM → G Γ X M cs sl L st q) : G Γ X M cs sl L (.int x :: st) pc := by
  subst hq
  obtain ⟨p, e, R, s, m, args, below, meth, c, Q⟩ := X
  obtain ⟨hx, hb, hml, hown, hts, hW, hlk, hret, hR, hK, hSs, hG⟩ := C
  intro H locs ls a1 a2 a3 a4 a5
  exact lv_if_gt hx hb d ht (fun h => kt (by rw [if_pos h] at hf; exact hf) H locs ls a1 a2 a3 a4 a5) (fun h => kf (by rw [if_neg h] at hf; exact hf) H locs ls a1 a2 a3 a4 a5)
theorem x_if_le (C : CX Γ X cc nL own ret R0) {x : Int32} {off : Int} {a b : Option β} (tgt : Nat) (d : decode cc pc = .ok (.ifCond .le off, 3)) (q : Nat) (hq : pc + 3 = q) (ht : (pc : Int) + off = (tgt : Int)) (hf : (if x ≤ 0 then a else b) = some rM) (kt : a = some rM → G Γ X M cs sl L st tgt) (kf : b = some rM → G Γ X M cs sl L st q) : G Γ X M cs sl L (.int x :: st) pc := by
  subst hq
  obtain ⟨p, e, R, s, m, args, below, meth, c, Q⟩ := X
  obtain ⟨hx, hb, hml, hown, hts, hW, hlk, hret, hR, hK, hSs, hG⟩ := C
  intro H locs ls a1 a2 a3 a4 a5
  exact lv_if_le hx hb d ht (fun h => kt (by rw [if_pos h] at hf; exact hf) H locs ls a1 a2 a3 a4 a5) (fun h => kf (by rw [if_neg h] at hf; exact hf) H locs ls a1 a2 a3 a4 a5)
theorem x_icmp_eq (C : CX Γ X cc nL own ret R0) {x y : Int32} {off : Int} {a b : Option β} (tgt : Nat) (d : decode cc pc = .ok (.if_icmp .eq off, 3)) (q : Nat) (hq : pc + 3 = q) (ht : (pc : Int) + off = (tgt : Int)) (hf : (if x = y then a else b) = some rM) (kt : a = some rM → G Γ X M cs sl L st tgt) (kf : b = some rM → G Γ X M cs sl L st q) : G Γ X M cs sl L (.int y :: .int x :: st) pc := by
  subst hq
  obtain ⟨p, e, R, s, m, args, below, meth, c, Q⟩ := X
  obtain ⟨hx, hb, hml, hown, hts, hW, hlk, hret, hR, hK, hSs, hG⟩ := C
  intro H locs ls a1 a2 a3 a4 a5
  exact lv_icmp_eq hx hb d ht (fun h => kt (by rw [if_pos h] at hf; exact hf) H locs ls a1 a2 a3 a4 a5) (fun h => kf (by rw [if_neg h] at hf; exact hf) H locs ls a1 a2 a3 a4 a5)
theorem x_icmp_ne (C : CX Γ X cc nL own ret R0) {x y : Int32} {off : Int} {a b : Option β} (tgt : Nat) (d : decode cc pc = .ok (.if_icmp .ne off, 3)) (q : Nat) (hq : pc + 3 = q) (ht : (pc : Int) + off = (tgt : Int)) (hf : (if x = y then b else a) = some rM) (kt : a = some rM → G Γ X M cs sl L st tgt) (kf : b = some rM → G Γ X M cs sl L st q) : G Γ X M cs sl L (.int y :: .int x :: st) pc := by
  subst hq
  obtain ⟨p, e, R, s, m, args, below, meth, c, Q⟩ := X
  obtain ⟨hx, hb, hml, hown, hts, hW, hlk, hret, hR, hK, hSs, hG⟩ := C
  intro H locs ls a1 a2 a3 a4 a5
  exact lv_icmp_ne hx hb d ht (fun h => kt (by rw [if_neg h] at hf; exact hf) H locs ls a1 a2 a3 a4 a5) (fun h => kf (by rw [if_pos h] at hf; exact hf) H locs ls a1 a2 a3 a4 a5)
theorem x_icmp_lt (C : CX Γ X cc nL own ret R0) {x y : Int32} {off : Int} {a b : Option β} (tgt : Nat) (d : decode cc pc = .ok (.if_icmp .lt off, 3)) (q : Nat) (hq : pc + 3 = q) (ht : (pc : Int) + off = (tgt : Int)) (hf : (if x < y then a else b) = some rM) (kt : a = some rM → G Γ X M cs sl L st tgt) (kf : b = some rM → G Γ X M cs sl L st q) : G Γ X M cs sl L (.int y :: .int x :: st) pc := by
  subst hq
  obtain ⟨p, e, R, s, m, args, below, meth, c, Q⟩ := X
  obtain ⟨hx, hb, hml, hown, hts, hW, hlk, hret, hR, hK, hSs, hG⟩ := C
  intro H locs ls a1 a2 a3 a4 a5
  exact lv_icmp_lt hx hb d ht (fun h => kt (by rw [if_pos h] at hf; exact hf) H locs ls a1 a2 a3 a4 a5) (fun h => kf (by rw [if_neg h] at hf; exact hf) H locs ls a1 a2 a3 a4 a5)
theorem x_icmp_ge (C : CX Γ X cc nL own ret R0) {x y : Int32} {off : Int} {a b : Option β} (tgt : Nat) (d : decode cc pc = .ok (.if_icmp .ge off, 3)) (q : Nat) (hq : pc + 3 = q) (ht : (pc : Int) + off = (tgt : Int)) (hf : (if y ≤ x then a else b) = some rM) (kt : a = some rM → G Γ X M cs sl L st tgt) (kf : b = some rM → G Γ X M cs sl L st q) : G Γ X M cs sl L (.int y :: .int x :: st) pc := by
  subst hq
  obtain ⟨p, e, R, s, m, args, below, meth, c, Q⟩ := X
  obtain ⟨hx, hb, hml, hown, hts, hW, hlk, hret, hR, hK, hSs, hG⟩ := C
  intro H locs ls a1 a2 a3 a4 a5
  exact lv_icmp_ge hx hb d ht (fun h => kt (by rw [if_pos h] at hf; exact hf) H locs ls a1 a2 a3 a4 a5) (fun h => kf (by rw [if_neg h] at hf; exact hf) H locs ls a1 a2 a3 a4 a5)
theorem x_icmp_gt (C : CX Γ X cc nL own ret R0) {x y : Int32} {off : Int} {a b : Option β} (tgt : Nat) (d : decode cc pc = .ok (.if_icmp .gt off, 3)) (q : Nat) (hq : pc + 3 = q) (ht : (pc : Int) + off = (tgt : Int)) (hf : (if y < x then a else b) = some rM) (kt : a = some rM → G Γ X M cs sl L st tgt) (kf : b = some rM → G Γ X M cs sl L st q) : G Γ X M cs sl L (.int y :: .int x :: st) pc := by
  subst hq
  obtain ⟨p, e, R, s, m, args, below, meth, c, Q⟩ := X
  obtain ⟨hx, hb, hml, hown, hts, hW, hlk, hret, hR, hK, hSs, hG⟩ := C
  intro H locs ls a1 a2 a3 a4 a5
  exact lv_icmp_gt hx hb d ht (fun h => kt (by rw [if_pos h] at hf; exact hf) H locs ls a1 a2 a3 a4 a5) (fun h => kf (by rw [if_neg h] at hf; exact hf) H locs ls a1 a2 a3 a4 a5)
theorem x_icmp_le (C : CX Γ X cc nL own ret R0) {x y : Int32} {off : Int} {a b : Option β} (tgt : Nat) (d : decode cc pc = .ok (.if_icmp .le off, 3)) (q : Nat) (hq : pc + 3 = q) (ht : (pc : Int) + off = (tgt : Int)) (hf : (if x ≤ y then a else b) = some rM) (kt : a = some rM → G Γ X M cs sl L st tgt) (kf : b = some rM → G Γ X M cs sl L st q) : G Γ X M cs sl L (.int y :: .int x :: st) pc := by
  subst hq
  obtain ⟨p, e, R, s, m, args, below, meth, c, Q⟩ := X
  obtain ⟨hx, hb, hml, hown, hts, hW, hlk, hret, hR, hK, hSs, hG⟩ := C
  intro H locs ls a1 a2 a3 a4 a5
  exact lv_icmp_le hx hb d ht (fun h => kt (by rw [if_pos h] at hf; exact hf) H locs ls a1 a2 a3 a4 a5) (fun h => kf (by rw [if_neg h] at hf; exact hf) H locs ls a1 a2 a3 a4 a5)
theorem x_lcmp_eq (C : CX Γ X cc nL own ret R0) {x y : Int64} {off : Int} {a b : Option β} (tgt : Nat) (d : decode cc pc = .ok (.lcmp, 1)) (q : Nat) (hq : pc + 4 = q) (d2 : decode cc (pc + 1) = .ok (.ifCond .eq off, 3)) (ht : ((pc + 1 : Nat) : Int) + off = (tgt : Int)) (hf : (if x = y then a else b) = some rM) (kt : a = some rM → G Γ X M cs sl L st tgt) (kf : b = some rM → G Γ X M cs sl L st q) : G Γ X M cs sl L (.long y :: .long x :: st) pc := by
  subst hq
  obtain ⟨p, e, R, s, m, args, below, meth, c, Q⟩ := X
  obtain ⟨hx, hb, hml, hown, hts, hW, hlk, hret, hR, hK, hSs, hG⟩ := C
  intro H locs ls a1 a2 a3 a4 a5
  exact W.lcmp hx hb d (lv_if_eq hx hb d2 ht (fun h => kt (by rw [if_pos ((lg_cmp_eq x y).mp h)] at hf; exact hf) H locs ls a1 a2 a3 a4 a5) (fun h => kf (by rw [if_neg (fun z => h ((lg_cmp_eq x y).mpr z))] at hf; exact hf) H locs ls a1 a2 a3 a4 a5))
theorem x_lcmp_ne (C : CX Γ X cc nL own ret R0) {x y : Int64} {off : Int} {a b : Option β} (tgt : Nat) (d : decode cc pc = .ok (.lcmp, 1)) (q : Nat) (hq : pc + 4 = q) (d2 : decode cc (pc + 1) = .ok (.ifCond .ne off, 3)) (ht : ((pc + 1 : Nat) : Int) + off = (tgt : Int)) (hf : (if x = y then b else a) = some rM) (kt : a = some rM → G Γ X M cs sl L st tgt) (kf : b = some rM → G Γ X M cs sl L st q) : G Γ X M cs sl L (.long y :: .long x :: st) pc := by
  subst hq
  obtain ⟨p, e, R, s, m, args, below, meth, c, Q⟩ := X
  obtain ⟨hx, hb, hml, hown, hts, hW, hlk, hret, hR, hK, hSs, hG⟩ := C
  intro H locs ls a1 a2 a3 a4 a5
  exact W.lcmp hx hb d (lv_if_ne hx hb d2 ht (fun h => kt (by rw [if_neg (fun z => h ((lg_cmp_eq x y).mpr z))] at hf; exact hf) H locs ls a1 a2 a3 a4 a5) (fun h => kf (by rw [if_pos ((lg_cmp_eq x y).mp h)] at hf; exact hf) H locs ls a1 a2 a3 a4 a5))
theorem x_lcmp_lt (C : CX Γ X cc nL own ret R0) {x y : Int64} {off : Int} {a b : Option β} (tgt : Nat) (d : decode cc pc = .ok (.lcmp, 1)) (q : Nat) (hq : pc + 4 = q) (d2 : decode cc (pc + 1) = .ok (.ifCond .lt off, 3)) (ht : ((pc + 1 : Nat) : Int) + off = (tgt : Int)) (hf : (if x < y then a else b) = some rM) (kt : a = some rM → G Γ X M cs sl L st tgt) (kf : b = some rM → G Γ X M cs sl L st q) : G Γ X M cs sl L (.long y :: .long x :: st) pc := by
  subst hq
  obtain ⟨p, e, R, s, m, args, below, meth, c, Q⟩ := X
  obtain ⟨hx, hb, hml, hown, hts, hW, hlk, hret, hR, hK, hSs, hG⟩ := C
  intro H locs ls a1 a2 a3 a4 a5
  exact W.lcmp hx hb d (lv_if_lt hx hb d2 ht (fun h => kt (by rw [if_pos ((lg_cmp_lt x y).mp h)] at hf; exact hf) H locs ls a1 a2 a3 a4 a5) (fun h => kf (by rw [if_neg (fun z => h ((lg_cmp_lt x y).mpr z))] at hf; exact hf) H locs ls a1 a2 a3 a4 a5))
theorem x_lcmp_ge (C : CX Γ X cc nL own ret R0) {x y : Int64} {off : Int} {a b : Option β} (tgt : Nat) (d : decode cc pc = .ok (.lcmp, 1)) (q : Nat) (hq : pc + 4 = q) (d2 : decode cc (pc + 1) = .ok (.ifCond .ge off, 3)) (ht : ((pc + 1 : Nat) : Int) + off = (tgt : Int)) (hf : (if y ≤ x then a else b) = some rM) (kt : a = some rM → G Γ X M cs sl L st tgt) (kf : b = some rM → G Γ X M cs sl L st q) : G Γ X M cs sl L (.long y :: .long x :: st) pc := by
  subst hq
  obtain ⟨p, e, R, s, m, args, below, meth, c, Q⟩ := X
  obtain ⟨hx, hb, hml, hown, hts, hW, hlk, hret, hR, hK, hSs, hG⟩ := C
  intro H locs ls a1 a2 a3 a4 a5
  exact W.lcmp hx hb d (lv_if_ge hx hb d2 ht (fun h => kt (by rw [if_pos ((lg_cmp_ge x y).mp h)] at hf; exact hf) H locs ls a1 a2 a3 a4 a5) (fun h => kf (by rw [if_neg (fun z => h ((lg_cmp_ge x y).mpr z))] at hf; exact hf) H locs ls a1 a2 a3 a4 a5))
theorem x_lcmp_gt (C : CX Γ X cc nL own ret R0) {x y : Int64} {off : Int} {a b : Option β} (tgt : Nat) (d : decode cc pc = .ok (.lcmp, 1)) (q : Nat) (hq : pc + 4 = q) (d2 : decode cc (pc + 1) = .ok (.ifCond .gt off, 3)) (ht : ((pc + 1 : Nat) : Int) + off = (tgt : Int)) (hf : (if y < x then a else b) = some rM) (kt : a = some rM → G Γ X M cs sl L st tgt) (kf : b = some rM → G Γ X M cs sl L st q) : G Γ X M cs sl L (.long y :: .long x :: st) pc := by
  subst hq
  obtain ⟨p, e, R, s, m, args, below, meth, c, Q⟩ := X
  obtain ⟨hx, hb, hml, hown, hts, hW, hlk, hret, hR, hK, hSs, hG⟩ := C
  intro H locs ls a1 a2 a3 a4 a5
  exact W.lcmp hx hb d (lv_if_gt hx hb d2 ht (fun h => kt (by rw [if_pos ((lg_cmp_gt x y).mp h)] at hf; exact hf) H locs ls a1 a2 a3 a4 a5) (fun h => kf (by rw [if_neg (fun z => h ((lg_cmp_gt x y).mpr z))] at hf; exact hf) H locs ls a1 a2 a3 a4 a5))
theorem x_lcmp_le (C : CX Γ X cc nL own ret R0) {x y : Int64} {off : Int} {a b : Option β} (tgt : Nat) (d : decode cc pc = .ok (.lcmp, 1)) (q : Nat) (hq : pc + 4 = q) (d2 : decode cc (pc + 1) = .ok (.ifCond .le off, 3)) (ht : ((pc + 1 : Nat) : Int) + off = (tgt : Int)) (hf : (if x ≤ y then a else b) = some rM) (kt : a = some rM → G Γ X M cs sl L st tgt) (kf : b = some rM → G Γ X M cs sl L st q) : G Γ X M cs sl L (.long y :: .long x :: st) pc := by
  subst hq
  obtain ⟨p, e, R, s, m, args, below, meth, c, Q⟩ := X
  obtain ⟨hx, hb, hml, hown, hts, hW, hlk, hret, hR, hK, hSs, hG⟩ := C
  intro H locs ls a1 a2 a3 a4 a5
  exact W.lcmp hx hb d (lv_if_le hx hb d2 ht (fun h => kt (by rw [if_pos ((lg_cmp_le x y).mp h)] at hf; exact hf) H locs ls a1 a2 a3 a4 a5) (fun h => kf (by rw [if_neg (fun z => h ((lg_cmp_le x y).mpr z))] at hf; exact hf) H locs ls a1 a2 a3 a4 a5))
theorem x_irem (C : CX Γ X cc nL own ret R0) {x y : Int32} {a : Option β} (d : decode cc pc = .ok (.irem, 1)) (q : Nat) (hq : pc + 1 = q) (hf : nzI y a = some rM) (K : a = some rM → G Γ X M cs sl L (.int (x - x / y * y) :: st) q) : G Γ X M cs sl L (.int y :: .int x :: st) pc := by
  subst hq
  obtain ⟨p, e, R, s, m, args, below, meth, c, Q⟩ := X
  obtain ⟨hx, hb, hml, hown, hts, hW, hlk, hret, hR, hK, hSs, hG⟩ := C
  intro H locs ls a1 a2 a3 a4 a5
  have h0 : ¬ y = 0 := fun h => by rw [nzI, if_pos h] at hf; exact nomatch hf
  rw [nzI, if_neg h0] at hf
  exact lv_irem hx hb d h0 (K hf H locs ls a1 a2 a3 a4 a5)
theorem x_idiv (C : CX Γ X cc nL own ret R0) {x y : Int32} {a : Option β} (d : decode cc pc = .ok (.idiv, 1)) (q : Nat) (hq : pc + 1 = q) (hf : nzI y a = some rM) (K : a = some rM → G Γ X M cs sl L (.int (x / y) :: st) q) : G Γ X M cs sl L (.int y :: .int x :: st) pc := by
  subst hq
  obtain ⟨p, e, R, s, m, args, below, meth, c, Q⟩ := X
  obtain ⟨hx, hb, hml, hown, hts, hW, hlk, hret, hR, hK, hSs, hG⟩ := C
  intro H locs ls a1 a2 a3 a4 a5
  have h0 : ¬ y = 0 := fun h => by rw [nzI, if_pos h] at hf; exact nomatch hf
  rw [nzI, if_neg h0] at hf
  exact lv_idiv hx hb d h0 (K hf H locs ls a1 a2 a3 a4 a5)
theorem x_ldiv (C : CX Γ X cc nL own ret R0) {x y : Int64} {a : Option β} (d : decode cc pc = .ok (.ldiv, 1)) (q : Nat) (hq : pc + 1 = q) (hf : nzL y a = some rM) (K : a = some rM → G Γ X M cs sl L (.long (x / y) :: st) q) : G Γ X M cs sl L (.long y :: .long x :: st) pc := by
  subst hq
  obtain ⟨p, e, R, s, m, args, below, meth, c, Q⟩ := X
  obtain ⟨hx, hb, hml, hown, hts, hW, hlk, hret, hR, hK, hSs, hG⟩ := C
  intro H locs ls a1 a2 a3 a4 a5
  have h0 : ¬ y = 0 := fun h => by rw [nzL, if_pos h] at hf; exact nomatch hf
  rw [nzL, if_neg h0] at hf
  exact lv_ldiv hx hb d h0 (K hf H locs ls a1 a2 a3 a4 a5)
theorem x_lrem (C : CX Γ X cc nL own ret R0) {x y : Int64} {a : Option β} (d : decode cc pc = .ok (.lrem, 1)) (q : Nat) (hq : pc + 1 = q) (hf : nzL y a = some rM) (K : a = some rM → G Γ X M cs sl L (.long (x - x / y * y) :: st) q) : G Γ X M cs sl L (.long y :: .long x :: st) pc := by
  subst hq
  obtain ⟨p, e, R, s, m, args, below, meth, c, Q⟩ := X
  obtain ⟨hx, hb, hml, hown, hts, hW, hlk, hret, hR, hK, hSs, hG⟩ := C
  intro H locs ls a1 a2 a3 a4 a5
  have h0 : ¬ y = 0 := fun h => by rw [nzL, if_pos h] at hf; exact nomatch hf
  rw [nzL, if_neg h0] at hf
  exact lv_lrem hx hb d h0 (K hf H locs ls a1 a2 a3 a4 a5)
theorem x_iald (C : CX Γ X cc nL own ret R0) {o n : Nat} {i : Int32} {k : Int32 → Option β} (hs : On Γ o (0, n)) (d : decode cc pc = .ok (.iaload, 1)) (q : Nat) (hq : pc + 1 = q) (hf : rdI M o n i k = some rM) (K : ∀ v, k v = some rM → G Γ X M cs sl L (.int v :: st) q) : G Γ X M cs sl L (.int i :: .ref (wad Γ o) :: st) pc := by
  subst hq
  obtain ⟨p, e, R, s, m, args, below, meth, c, Q⟩ := X
  obtain ⟨hx, hb, hml, hown, hts, hW, hlk, hret, hR, hK, hSs, hG⟩ := C
  intro H locs ls a1 a2 a3 a4 a5
  obtain ⟨hi, hf⟩ := if_some hf
  exact va_iald hx hb hK a2 (px Γ o) 0 (wO_at hs) rfl (inB_in hi) d (K _ hf H locs ls a1 a2 a3 a4 a5)
theorem x_bald (C : CX Γ X cc nL own ret R0) {o n : Nat} {i : Int32} {k : Int32 → Option β} (hs : On Γ o (2, n)) (d : decode cc pc = .ok (.baload, 1)) (q : Nat) (hq : pc + 1 = q) (hf : rdI M o n i k = some rM) (K : ∀ v, k v = some rM → G Γ X M cs sl L (.int v :: st) q) : G Γ X M cs sl L (.int i :: .ref (wad Γ o) :: st) pc := by
  subst hq
  obtain ⟨p, e, R, s, m, args, below, meth, c, Q⟩ := X
  obtain ⟨hx, hb, hml, hown, hts, hW, hlk, hret, hR, hK, hSs, hG⟩ := C
  intro H locs ls a1 a2 a3 a4 a5
  obtain ⟨hi, hf⟩ := if_some hf
  exact va_bald hx hb hK a2 (px Γ o) 2 (wO_at hs) rfl (inB_in hi) d (K _ hf H locs ls a1 a2 a3 a4 a5)
theorem x_zald (C : CX Γ X cc nL own ret R0) {o n : Nat} {i : Int32} {k : Int32 → Option β} (hs : On Γ o (3, n)) (d : decode cc pc = .ok (.baload, 1)) (q : Nat) (hq : pc + 1 = q) (hf : rdI M o n i k = some rM) (K : ∀ v, k v = some rM → G Γ X M cs sl L (.int v :: st) q) : G Γ X M cs sl L (.int i :: .ref (wad Γ o) :: st) pc := by
  subst hq
  obtain ⟨p, e, R, s, m, args, below, meth, c, Q⟩ := X
  obtain ⟨hx, hb, hml, hown, hts, hW, hlk, hret, hR, hK, hSs, hG⟩ := C
  intro H locs ls a1 a2 a3 a4 a5
  obtain ⟨hi, hf⟩ := if_some hf
  exact va_zald hx hb hK a2 (px Γ o) 3 (wO_at hs) rfl (inB_in hi) d (K _ hf H locs ls a1 a2 a3 a4 a5)
theorem x_lald (C : CX Γ X cc nL own ret R0) {o n : Nat} {i : Int32} {k : Int64 → Option β} (hs : On Γ o (1, n)) (d : decode cc pc = .ok (.laload, 1)) (q : Nat) (hq : pc + 1 = q) (hf : rdL M o n i k = some rM) (K : ∀ v, k v = some rM → G Γ X M cs sl L (.long v :: st) q) : G Γ X M cs sl L (.int i :: .ref (wad Γ o) :: st) pc := by
  subst hq
  obtain ⟨p, e, R, s, m, args, below, meth, c, Q⟩ := X
  obtain ⟨hx, hb, hml, hown, hts, hW, hlk, hret, hR, hK, hSs, hG⟩ := C
  intro H locs ls a1 a2 a3 a4 a5
  obtain ⟨hi, hf⟩ := if_some hf
  exact va_lald hx hb hK a2 (px Γ o) 1 (wO_at hs) rfl (inB_in hi) d (K _ hf H locs ls a1 a2 a3 a4 a5)
theorem x_iast (C : CX Γ X cc nL own ret R0) {o n : Nat} {i : Int32} {v : Int32} {k : Mem → Option β} (hs : On Γ o (0, n)) (d : decode cc pc = .ok (.iastore, 1)) (q : Nat) (hq : pc + 1 = q) (hf : wrI M o n i v k = some rM) (K : ∀ M1, k M1 = some rM → G Γ X M1 cs sl L st q) : G Γ X M cs sl L (.int v :: .int i :: .ref (wad Γ o) :: st) pc := by
  subst hq
  obtain ⟨p, e, R, s, m, args, below, meth, c, Q⟩ := X
  obtain ⟨hx, hb, hml, hown, hts, hW, hlk, hret, hR, hK, hSs, hG⟩ := C
  intro H locs ls a1 a2 a3 a4 a5
  obtain ⟨hi, hf⟩ := if_some hf
  refine va_iast hx hb hK a2 a3 a4 (px Γ o) 0 (wO_at hs) rfl (inB_in hi) d (fun H1 locs1 hP1 hD1 hS1 => ?_)
  have e1 : (wO Γ M).set (px Γ o) (wad Γ o, cE (wA Γ) (wad Γ) (sI M o i.toNatClampNeg v) o (0, n)) = wO Γ (sI M o i.toNatClampNeg v) := wO_set hs (fun a ha q => cE_sI ha q)
  have e2 : (gI (sI M o i.toNatClampNeg v) o) = (upd (gI M o) i.toNatClampNeg v) := by
    funext j
    simp only [gI_sI, upd, true_and]
  have e3 : cE (wA Γ) (wad Γ) (sI M o i.toNatClampNeg v) o (0, n) = (Sum.inl (wA Γ 0, n, Sum.inl (upd (gI M o) i.toNatClampNeg v)) : va_E) := by
    show (Sum.inl (wA Γ 0, n, Sum.inl (gI (sI M o i.toNatClampNeg v) o)) : va_E) = _
    rw [e2]
  rw [← e3, e1] at hP1 hD1
  exact K _ hf H1 locs1 ls (hG.kw M _ (fun _ _ => rfl) a1) hP1 hD1 hS1 a5
theorem x_bast (C : CX Γ X cc nL own ret R0) {o n : Nat} {i : Int32} {v : Int32} {k : Mem → Option β} (hs : On Γ o (2, n)) (d : decode cc pc = .ok (.bastore, 1)) (q : Nat) (hq : pc + 1 = q) (hf : wrB M o n i v k = some rM) (K : ∀ M1, k M1 = some rM → G Γ X M1 cs sl L st q) : G Γ X M cs sl L (.int v :: .int i :: .ref (wad Γ o) :: st) pc := by
  subst hq
  obtain ⟨p, e, R, s, m, args, below, meth, c, Q⟩ := X
  obtain ⟨hx, hb, hml, hown, hts, hW, hlk, hret, hR, hK, hSs, hG⟩ := C
  intro H locs ls a1 a2 a3 a4 a5
  obtain ⟨hi, hf⟩ := if_some hf
  refine va_bast hx hb hK a2 a3 a4 (px Γ o) 2 (wO_at hs) rfl (inB_in hi) d (fun H1 locs1 hP1 hD1 hS1 => ?_)
  have e1 : (wO Γ M).set (px Γ o) (wad Γ o, cE (wA Γ) (wad Γ) (sI M o i.toNatClampNeg (vp_nar .byte v)) o (2, n)) = wO Γ (sI M o i.toNatClampNeg (vp_nar .byte v)) := wO_set hs (fun a ha q => cE_sI ha q)
  have e2 : (gI (sI M o i.toNatClampNeg (vp_nar .byte v)) o) = (upd (gI M o) i.toNatClampNeg (vp_nar .byte v)) := by
    funext j
    simp only [gI_sI, upd, true_and]
  have e3 : cE (wA Γ) (wad Γ) (sI M o i.toNatClampNeg (vp_nar .byte v)) o (2, n) = (Sum.inl (wA Γ 2, n, Sum.inl (upd (gI M o) i.toNatClampNeg (vp_nar .byte v))) : va_E) := by
    show (Sum.inl (wA Γ 2, n, Sum.inl (gI (sI M o i.toNatClampNeg (vp_nar .byte v)) o)) : va_E) = _
    rw [e2]
  rw [← e3, e1] at hP1 hD1
  exact K _ hf H1 locs1 ls (hG.kw M _ (fun _ _ => rfl) a1) hP1 hD1 hS1 a5
theorem x_zast (C : CX Γ X cc nL own ret R0) {o n : Nat} {i : Int32} {v : Int32} {k : Mem → Option β} (hs : On Γ o (3, n)) (d : decode cc pc = .ok (.bastore, 1)) (q : Nat) (hq : pc + 1 = q) (hf : wrZ M o n i v k = some rM) (K : ∀ M1, k M1 = some rM → G Γ X M1 cs sl L st q) : G Γ X M cs sl L (.int v :: .int i :: .ref (wad Γ o) :: st) pc := by
  subst hq
  obtain ⟨p, e, R, s, m, args, below, meth, c, Q⟩ := X
  obtain ⟨hx, hb, hml, hown, hts, hW, hlk, hret, hR, hK, hSs, hG⟩ := C
  intro H locs ls a1 a2 a3 a4 a5
  obtain ⟨hi, hf⟩ := if_some hf
  refine va_zast hx hb hK a2 a3 a4 (px Γ o) 3 (wO_at hs) rfl (inB_in hi) d (fun H1 locs1 hP1 hD1 hS1 => ?_)
  have e1 : (wO Γ M).set (px Γ o) (wad Γ o, cE (wA Γ) (wad Γ) (sI M o i.toNatClampNeg (vp_nar .boolean v)) o (3, n)) = wO Γ (sI M o i.toNatClampNeg (vp_nar .boolean v)) := wO_set hs (fun a ha q => cE_sI ha q)
  have e2 : (gI (sI M o i.toNatClampNeg (vp_nar .boolean v)) o) = (upd (gI M o) i.toNatClampNeg (vp_nar .boolean v)) := by
    funext j
    simp only [gI_sI, upd, true_and]
  have e3 : cE (wA Γ) (wad Γ) (sI M o i.toNatClampNeg (vp_nar .boolean v)) o (3, n) = (Sum.inl (wA Γ 3, n, Sum.inl (upd (gI M o) i.toNatClampNeg (vp_nar .boolean v))) : va_E) := by
    show (Sum.inl (wA Γ 3, n, Sum.inl (gI (sI M o i.toNatClampNeg (vp_nar .boolean v)) o)) : va_E) = _
    rw [e2]
  rw [← e3, e1] at hP1 hD1
  exact K _ hf H1 locs1 ls (hG.kw M _ (fun _ _ => rfl) a1) hP1 hD1 hS1 a5
theorem x_last (C : CX Γ X cc nL own ret R0) {o n : Nat} {i : Int32} {v : Int64} {k : Mem → Option β} (hs : On Γ o (1, n)) (d : decode cc pc = .ok (.lastore, 1)) (q : Nat) (hq : pc + 1 = q) (hf : wrL M o n i v k = some rM) (K : ∀ M1, k M1 = some rM → G Γ X M1 cs sl L st q) : G Γ X M cs sl L (.long v :: .int i :: .ref (wad Γ o) :: st) pc := by
  subst hq
  obtain ⟨p, e, R, s, m, args, below, meth, c, Q⟩ := X
  obtain ⟨hx, hb, hml, hown, hts, hW, hlk, hret, hR, hK, hSs, hG⟩ := C
  intro H locs ls a1 a2 a3 a4 a5
  obtain ⟨hi, hf⟩ := if_some hf
  refine va_last hx hb hK a2 a3 a4 (px Γ o) 1 (wO_at hs) rfl (inB_in hi) d (fun H1 locs1 hP1 hD1 hS1 => ?_)
  have e1 : (wO Γ M).set (px Γ o) (wad Γ o, cE (wA Γ) (wad Γ) (sL M o i.toNatClampNeg v) o (1, n)) = wO Γ (sL M o i.toNatClampNeg v) := wO_set hs (fun a ha q => cE_sL ha q)
  have e2 : (gL (sL M o i.toNatClampNeg v) o) = (vp_updL (gL M o) i.toNatClampNeg v) := by
    funext j
    simp only [gL_sL, vp_updL, true_and]
  have e3 : cE (wA Γ) (wad Γ) (sL M o i.toNatClampNeg v) o (1, n) = (Sum.inl (wA Γ 1, n, Sum.inr (Sum.inl (vp_updL (gL M o) i.toNatClampNeg v))) : va_E) := by
    show (Sum.inl (wA Γ 1, n, Sum.inr (Sum.inl (gL (sL M o i.toNatClampNeg v) o))) : va_E) = _
    rw [e2]
  rw [← e3, e1] at hP1 hD1
  exact K _ hf H1 locs1 ls (hG.kw M _ (fun _ _ => rfl) a1) hP1 hD1 hS1 a5
theorem x_alen (C : CX Γ X cc nL own ret R0) {o cd n : Nat} {v : Int32} (hc : cd < 4) (hs : On Γ o (cd, n)) (hv : Int32.ofNat n = v) (d : decode cc pc = .ok (.arraylength, 1)) (q : Nat) (hq : pc + 1 = q) (k : G Γ X M cs sl L (.int v :: st) q) : G Γ X M cs sl L (.ref (wad Γ o) :: st) pc := by
  subst hq
  obtain ⟨p, e, R, s, m, args, below, meth, c, Q⟩ := X
  obtain ⟨hx, hb, hml, hown, hts, hW, hlk, hret, hR, hK, hSs, hG⟩ := C
  intro H locs ls a1 a2 a3 a4 a5
  match cd, hc, hs with
  | 0, _, hs => exact va_alen hx hb hK a2 (px Γ o) 0 (wO_at hs) rfl hv d (k H locs ls a1 a2 a3 a4 a5)
  | 1, _, hs => exact va_alen hx hb hK a2 (px Γ o) 1 (wO_at hs) rfl hv d (k H locs ls a1 a2 a3 a4 a5)
  | 2, _, hs => exact va_alen hx hb hK a2 (px Γ o) 2 (wO_at hs) rfl hv d (k H locs ls a1 a2 a3 a4 a5)
  | 3, _, hs => exact va_alen hx hb hK a2 (px Γ o) 3 (wO_at hs) rfl hv d (k H locs ls a1 a2 a3 a4 a5)
  | n + 4, hc, _ => exact absurd hc (by omega)
theorem x_alenv (C : CX Γ X cc nL own ret R0) {o n : Nat} (hs : On Γ o (4, n)) (d : decode cc pc = .ok (.arraylength, 1)) (q : Nat) (hq : pc + 1 = q) (k : G Γ X M cs sl L (.int (Int32.ofNat (vlen M o)) :: st) q) : G Γ X M cs sl L (.ref (wad Γ o) :: st) pc := by
  subst hq
  obtain ⟨p, e, R, s, m, args, below, meth, c, Q⟩ := X
  obtain ⟨hx, hb, hml, hown, hts, hW, hlk, hret, hR, hK, hSs, hG⟩ := C
  intro H locs ls a1 a2 a3 a4 a5
  exact va_alen hx hb hK a2 (px Γ o) 2 (wO_at hs) rfl rfl d (k H locs ls a1 a2 a3 a4 a5)
theorem cE_q {dA : Nat → ClassId} {ad : Nat → Nat} {M : Mem} {o k n : Nat} (hn : n < 1000) : cE dA ad M o (5, 1000 * k + n) = .inl (dA (5 + k), n, .inr (.inr (.inr (.inr (fun j => (gR M o j).map ad))))) := by
  show (.inl (dA (5 + (1000 * k + n) / 1000), (1000 * k + n) % 1000, .inr (.inr (.inr (.inr (fun j => (gR M o j).map ad))))) : va_E) = _
  rw [show (1000 * k + n) / 1000 = k by omega, show (1000 * k + n) % 1000 = n by omega]
/-- the type of a place of a row of references -/
def tyQ (k : Nat) : FieldType := match k with
  | 0 => .object "DecisionChain$Settings"
  | 1 => .array .int
  | 2 => .array (.array .int)
  | _ => .array .boolean
theorem tysA_q (dA : Nat → ClassId) : ∀ k, k < 4 → (tysA dA)[4 + k]? = some (dA (5 + k), tyQ k) := by
  intro k hk
  match k, hk with
  | 0, _ => rfl
  | 1, _ => rfl
  | 2, _ => rfl
  | 3, _ => rfl
  | n + 4, hc => exact absurd hc (by omega)
theorem x_alenq (C : CX Γ X cc nL own ret R0) {o k9 n : Nat} {v : Int32} (hk9 : k9 < 4) (hn : n < 1000) (hs : On Γ o (5, 1000 * k9 + n)) (hv : Int32.ofNat n = v) (d : decode cc pc = .ok (.arraylength, 1)) (q : Nat) (hq : pc + 1 = q) (k : G Γ X M cs sl L (.int v :: st) q) : G Γ X M cs sl L (.ref (wad Γ o) :: st) pc := by
  subst hq
  obtain ⟨p, e, R, s, m, args, below, meth, c, Q⟩ := X
  obtain ⟨hx, hb, hml, hown, hts, hW, hlk, hret, hR, hK, hSs, hG⟩ := C
  intro H locs ls a1 a2 a3 a4 a5
  have h1 := wO_at (M := M) hs
  rw [cE_q hn] at h1
  exact va_alen hx hb hK a2 (px Γ o) (4 + k9) h1 (tysA_q _ k9 hk9) hv d (k H locs ls a1 a2 a3 a4 a5)
/-- what a row of references holds: k says the kind -/
def rdQ {β : Type} (M : Mem) (o n : Nat) (i : Int32) (sh : Nat → Option SE) (e : SE) (k : Nat → Option β) : Option β := if inB i n = true then (match gR M o i.toNatClampNeg with
  | some j => if sh j = some e then k j else none
  | none => none) else none
theorem x_aaldK (C : CX Γ X cc nL own ret R0) {o k9 n : Nat} {i : Int32} (hk9 : k9 < 4) (hn : n < 1000) (hs : On Γ o (5, 1000 * k9 + n)) (hi : inB i n = true) (d : decode cc pc = .ok (.aaload, 1)) (q : Nat) (hq : pc + 1 = q) {j : Nat} (hg : gR M o i.toNatClampNeg = some j) (K : G Γ X M cs sl L (.ref (wad Γ j) :: st) q) : G Γ X M cs sl L (.int i :: .ref (wad Γ o) :: st) pc := by
  subst hq
  obtain ⟨p, e, R, s, m, args, below, meth, c, Q⟩ := X
  obtain ⟨hx, hb, hml, hown, hts, hW, hlk, hret, hR, hK, hSs, hG⟩ := C
  intro H locs ls a1 a2 a3 a4 a5
  have h1 := wO_at (M := M) hs
  rw [cE_q hn] at h1
  have hin := inB_in hi
  have hlt : i.toNatClampNeg < n := Nat.not_le.mp fun q => hin (Or.inr q)
  have hr : (tyQ k9).isReference = true := by
    match k9, hk9 with
    | 0, _ => rfl
    | 1, _ => rfl
    | 2, _ => rfl
    | 3, _ => rfl
    | n + 4, hc => exact absurd hc (by omega)
  refine W.aald (v := .ref (wad Γ j)) (ty := tyQ k9) hx hb (a2 _ _ h1) ((hK.2 (4 + k9) _ (tysA_q _ k9 hk9)).1 n (fun j => va_rf ((gR M o j).map (wad Γ)))) hr (fun q => by cases q) (by show ¬ (i < 0 ∨ (arrV _ _ _).slots.size ≤ _); rw [arrV_size]; exact hin) ?_ rfl rfl d (K H locs ls a1 a2 a3 a4 a5)
  show (arrV _ _ _).slots[_]? = _
  rw [arrV_read _ _ hlt]
  show some (va_rf ((gR M o i.toNatClampNeg).map (wad Γ))) = _
  rw [hg]
  rfl
theorem x_qald (C : CX Γ X cc nL own ret R0) {o k9 n : Nat} {i : Int32} {sh : Nat → Option SE} {e9 : SE} {kk : Nat → Option β} (hk9 : k9 < 4) (hn : n < 1000) (hs : On Γ o (5, 1000 * k9 + n)) (d : decode cc pc = .ok (.aaload, 1)) (q : Nat) (hq : pc + 1 = q) (hf : rdQ M o n i sh e9 kk = some rM) (K : ∀ j, sh j = some e9 → kk j = some rM → G Γ X M cs sl L (.ref (wad Γ j) :: st) q) : G Γ X M cs sl L (.int i :: .ref (wad Γ o) :: st) pc := by
  subst hq
  obtain ⟨hi, hf⟩ := if_some hf
  cases hg : gR M o i.toNatClampNeg with
  | none => rw [hg] at hf; exact nomatch hf
  | some j =>
    rw [hg] at hf
    obtain ⟨hj, hf⟩ := if_some hf
    exact x_aaldK C hk9 hn hs hi d _ rfl hg (K j hj hf)
theorem x_getI (C : CX Γ X cc nL own ret R0) {o n idx ci k : Nat} {kk : Int32 → Option β} (lk : FLk own idx ci k 0) (hs : On Γ o (ci + 6, n)) (d : decode cc pc = .ok (.getfield idx, 3)) (q : Nat) (hq : pc + 3 = q) (hf : bd (gI M o k) kk = some rM) (K : ∀ v, kk v = some rM → G Γ X M cs sl L (.int v :: st) q) : G Γ X M cs sl L (.ref (wad Γ o) :: st) pc := by
  subst hq
  obtain ⟨p, e, R, s, m, args, below, meth, c, Q⟩ := X
  obtain ⟨hx, hb, hml, hown, hts, hW, hlk, hret, hR, hK, hSs, hG⟩ := C
  intro H locs ls a1 a2 a3 a4 a5
  obtain ⟨C, T, N, h1, h2, h3, h4, h5⟩ := lk
  have hv : (fsO (wad Γ) M o ci)[k]? = some (.int (gI M o k)) := by
    rw [fsO_at (by rw [nFd_of h1]; exact h2), h3]; rfl
  exact va_get hx hb (Ts := u_ws C T N) (fun w hw => hts w (h4 w hw)) (fun w h => h) hown hK a2 (px Γ o) (wO_at hs) h1 k h2 (hts _ h5) (fun _ h => h) hv d (K _ hf H locs ls a1 a2 a3 a4 a5)
theorem x_getL (C : CX Γ X cc nL own ret R0) {o n idx ci k : Nat} {kk : Int64 → Option β} (lk : FLk own idx ci k 1) (hs : On Γ o (ci + 6, n)) (d : decode cc pc = .ok (.getfield idx, 3)) (q : Nat) (hq : pc + 3 = q) (hf : bd (gL M o k) kk = some rM) (K : ∀ v, kk v = some rM → G Γ X M cs sl L (.long v :: st) q) : G Γ X M cs sl L (.ref (wad Γ o) :: st) pc := by
  subst hq
  obtain ⟨p, e, R, s, m, args, below, meth, c, Q⟩ := X
  obtain ⟨hx, hb, hml, hown, hts, hW, hlk, hret, hR, hK, hSs, hG⟩ := C
  intro H locs ls a1 a2 a3 a4 a5
  obtain ⟨C, T, N, h1, h2, h3, h4, h5⟩ := lk
  have hv : (fsO (wad Γ) M o ci)[k]? = some (.long (gL M o k)) := by
    rw [fsO_at (by rw [nFd_of h1]; exact h2), h3]; rfl
  exact va_get hx hb (Ts := u_ws C T N) (fun w hw => hts w (h4 w hw)) (fun w h => h) hown hK a2 (px Γ o) (wO_at hs) h1 k h2 (hts _ h5) (fun _ h => h) hv d (K _ hf H locs ls a1 a2 a3 a4 a5)
theorem x_getS (C : CX Γ X cc nL own ret R0) {o n idx ci k j : Nat} (lk : FLk own idx ci k 2) (hs : On Γ o (ci + 6, n)) (hr : ∀ M, wK Γ M → gR M o k = some j) (d : decode cc pc = .ok (.getfield idx, 3)) (q : Nat) (hq : pc + 3 = q) (K : G Γ X M cs sl L (.ref (wad Γ j) :: st) q) : G Γ X M cs sl L (.ref (wad Γ o) :: st) pc := by
  subst hq
  obtain ⟨p, e, R, s, m, args, below, meth, c, Q⟩ := X
  obtain ⟨hx, hb, hml, hown, hts, hW, hlk, hret, hR, hK, hSs, hG⟩ := C
  intro H locs ls a1 a2 a3 a4 a5
  obtain ⟨C, T, N, h1, h2, h3, h4, h5⟩ := lk
  have hv : (fsO (wad Γ) M o ci)[k]? = some (.ref (wad Γ j)) := by
    rw [fsO_at (by rw [nFd_of h1]; exact h2), h3]
    simp only [fVal, hr M a1, Option.map_some, va_rf]
  exact va_get hx hb (Ts := u_ws C T N) (fun w hw => hts w (h4 w hw)) (fun w h => h) hown hK a2 (px Γ o) (wO_at hs) h1 k h2 (hts _ h5) (fun _ h => h) hv d (K H locs ls a1 a2 a3 a4 a5)
theorem x_getR (C : CX Γ X cc nL own ret R0) {o n idx ci k : Nat} {sh : List SE} {e9 : SE} {kk : Nat → Option β} (lk : FLk own idx ci k 2) (hs : On Γ o (ci + 6, n)) (d : decode cc pc = .ok (.getfield idx, 3)) (q : Nat) (hq : pc + 3 = q) (hf : rfR M o k sh e9 kk = some rM) (K : ∀ j, sh[j]? = some e9 → kk j = some rM → G Γ X M cs sl L (.ref (wad Γ j) :: st) q) : G Γ X M cs sl L (.ref (wad Γ o) :: st) pc := by
  subst hq
  obtain ⟨p, e, R, s, m, args, below, meth, c, Q⟩ := X
  obtain ⟨hx, hb, hml, hown, hts, hW, hlk, hret, hR, hK, hSs, hG⟩ := C
  intro H locs ls a1 a2 a3 a4 a5
  obtain ⟨C, T, N, h1, h2, h3, h4, h5⟩ := lk
  unfold rfR at hf
  cases hg : gR M o k with
  | none => rw [hg] at hf; exact nomatch hf
  | some j =>
    rw [hg] at hf
    obtain ⟨hj, hf⟩ := if_some hf
    have hv : (fsO (wad Γ) M o ci)[k]? = some (.ref (wad Γ j)) := by
      rw [fsO_at (by rw [nFd_of h1]; exact h2), h3]
      simp only [fVal, hg, Option.map_some, va_rf]
    exact va_get hx hb (Ts := u_ws C T N) (fun w hw => hts w (h4 w hw)) (fun w h => h) hown hK a2 (px Γ o) (wO_at hs) h1 k h2 (hts _ h5) (fun _ h => h) hv d (K j hj hf H locs ls a1 a2 a3 a4 a5)
theorem x_aald (C : CX Γ X cc nL own ret R0) {o n : Nat} {i : Int32} {sh : List SE} {e9 : SE} {kk : Nat → Option β} (hn : n < 1000) (hs : On Γ o (5, n)) (d : decode cc pc = .ok (.aaload, 1)) (q : Nat) (hq : pc + 1 = q) (hf : rdR M o n i sh e9 kk = some rM) (K : ∀ j, sh[j]? = some e9 → kk j = some rM → G Γ X M cs sl L (.ref (wad Γ j) :: st) q) : G Γ X M cs sl L (.int i :: .ref (wad Γ o) :: st) pc := by
  subst hq
  obtain ⟨hi, hf⟩ := if_some hf
  cases hg : gR M o i.toNatClampNeg with
  | none => rw [hg] at hf; exact nomatch hf
  | some j =>
    rw [hg] at hf
    obtain ⟨hj, hf⟩ := if_some hf
    exact x_aaldK C (k9 := 0) (by decide) hn (by rw [Nat.mul_zero, Nat.zero_add]; exact hs) hi d _ rfl hg (K j hj hf)
theorem x_putI (C : CX Γ X cc nL own ret R0) {o n idx ci k : Nat} {v : Int32} {kk : Mem → Option β} {ok : Value → Prop} (lk : FPk own idx ci k 0 false ok) (hok : ok (.int v)) (hs : On Γ o (ci + 6, n)) (d : decode cc pc = .ok (.putfield idx, 3)) (q : Nat) (hq : pc + 3 = q) (hf : bd (sI M o k v) kk = some rM) (K : ∀ M1, kk M1 = some rM → G Γ X M1 cs sl L st q) : G Γ X M cs sl L (.int v :: .ref (wad Γ o) :: st) pc := by
  subst hq
  obtain ⟨p, e, R, s, m, args, below, meth, c, Q⟩ := X
  obtain ⟨hx, hb, hml, hown, hts, hW, hlk, hret, hR, hK, hSs, hG⟩ := C
  intro H locs ls a1 a2 a3 a4 a5
  obtain ⟨C, T, N, t9, h1, h2, h3, h4, h5, h6, h6b, h7, h8, h9⟩ := lk
  obtain ⟨z1, z2⟩ := h9 _ hok
  have hkN : k < nFd ci := by rw [nFd_of h1]; exact h2
  refine va_put hx hb (Ts := u_ws C T N) (fun w hw => hts w (h4 w hw)) (fun w h => h) t9 h7 h8 hown hK a2 a3 a4 (px Γ o) (wO_at hs) h1 k h2 (hts _ h5) (fun _ h => h) h6 (h7 k h2) z1 z2 (by rw [fsO_len]; exact hkN) d (fun H1 locs1 hP1 hD1 hS1 => ?_)
  have e0 : (fsO (wad Γ) M o ci).set k (.int v) = fsO (wad Γ) (sI M o k v) o ci := by
    have := fsO_set (ad := wad Γ) (M := M) (M' := sI M o k v) (o := o) (ci := ci) hkN (fun j q hj => by simp only [fVal]; split <;> first | (rw [gI_sI, if_neg (fun z => hj z.2)]; done) | rfl)
    rw [h3] at this
    simp only [fVal, gI_sI, and_self, if_true] at this; exact this
  have e1 : (wO Γ M).set (px Γ o) (wad Γ o, cE (wA Γ) (wad Γ) (sI M o k v) o (ci + 6, n)) = wO Γ (sI M o k v) := wO_set hs (fun a ha q => cE_sI ha q)
  have e3 : cE (wA Γ) (wad Γ) (sI M o k v) o (ci + 6, n) = (Sum.inr (ci, (fsO (wad Γ) M o ci).set k (.int v)) : va_E) := by
    rw [e0]; rfl
  rw [← e3, e1] at hP1 hD1
  exact K _ hf H1 locs1 ls (hG.kw M _ (fun _ _ => rfl) a1) hP1 hD1 hS1 a5
theorem x_putL (C : CX Γ X cc nL own ret R0) {o n idx ci k : Nat} {v : Int64} {kk : Mem → Option β} {ok : Value → Prop} (lk : FPk own idx ci k 1 false ok) (hok : ok (.long v)) (hs : On Γ o (ci + 6, n)) (d : decode cc pc = .ok (.putfield idx, 3)) (q : Nat) (hq : pc + 3 = q) (hf : bd (sL M o k v) kk = some rM) (K : ∀ M1, kk M1 = some rM → G Γ X M1 cs sl L st q) : G Γ X M cs sl L (.long v :: .ref (wad Γ o) :: st) pc := by
  subst hq
  obtain ⟨p, e, R, s, m, args, below, meth, c, Q⟩ := X
  obtain ⟨hx, hb, hml, hown, hts, hW, hlk, hret, hR, hK, hSs, hG⟩ := C
  intro H locs ls a1 a2 a3 a4 a5
  obtain ⟨C, T, N, t9, h1, h2, h3, h4, h5, h6, h6b, h7, h8, h9⟩ := lk
  obtain ⟨z1, z2⟩ := h9 _ hok
  have hkN : k < nFd ci := by rw [nFd_of h1]; exact h2
  refine va_put hx hb (Ts := u_ws C T N) (fun w hw => hts w (h4 w hw)) (fun w h => h) t9 h7 h8 hown hK a2 a3 a4 (px Γ o) (wO_at hs) h1 k h2 (hts _ h5) (fun _ h => h) h6 (h7 k h2) z1 z2 (by rw [fsO_len]; exact hkN) d (fun H1 locs1 hP1 hD1 hS1 => ?_)
  have e0 : (fsO (wad Γ) M o ci).set k (.long v) = fsO (wad Γ) (sL M o k v) o ci := by
    have := fsO_set (ad := wad Γ) (M := M) (M' := sL M o k v) (o := o) (ci := ci) hkN (fun j q hj => by simp only [fVal]; split <;> first | (rw [gL_sL, if_neg (fun z => hj z.2)]; done) | rfl)
    rw [h3] at this
    simp only [fVal, gL_sL, and_self, if_true] at this; exact this
  have e1 : (wO Γ M).set (px Γ o) (wad Γ o, cE (wA Γ) (wad Γ) (sL M o k v) o (ci + 6, n)) = wO Γ (sL M o k v) := wO_set hs (fun a ha q => cE_sL ha q)
  have e3 : cE (wA Γ) (wad Γ) (sL M o k v) o (ci + 6, n) = (Sum.inr (ci, (fsO (wad Γ) M o ci).set k (.long v)) : va_E) := by
    rw [e0]; rfl
  rw [← e3, e1] at hP1 hD1
  exact K _ hf H1 locs1 ls (hG.kw M _ (fun _ _ => rfl) a1) hP1 hD1 hS1 a5
theorem x_putR (C : CX Γ X cc nL own ret R0) {o n idx ci k : Nat} {v : Nat} (hk : ∀ M, wK Γ M → wK Γ (sR M o k (some v))) {kk : Mem → Option β} {ok : Value → Prop} (lk : FPk own idx ci k 2 false ok) (hok : ok (.ref (wad Γ v))) (hs : On Γ o (ci + 6, n)) (d : decode cc pc = .ok (.putfield idx, 3)) (q : Nat) (hq : pc + 3 = q) (hf : bd (sR M o k (some v)) kk = some rM) (K : ∀ M1, kk M1 = some rM → G Γ X M1 cs sl L st q) : G Γ X M cs sl L (.ref (wad Γ v) :: .ref (wad Γ o) :: st) pc := by
  subst hq
  obtain ⟨p, e, R, s, m, args, below, meth, c, Q⟩ := X
  obtain ⟨hx, hb, hml, hown, hts, hW, hlk, hret, hR, hK, hSs, hG⟩ := C
  intro H locs ls a1 a2 a3 a4 a5
  obtain ⟨C, T, N, t9, h1, h2, h3, h4, h5, h6, h6b, h7, h8, h9⟩ := lk
  obtain ⟨z1, z2⟩ := h9 _ hok
  have hkN : k < nFd ci := by rw [nFd_of h1]; exact h2
  refine va_put hx hb (Ts := u_ws C T N) (fun w hw => hts w (h4 w hw)) (fun w h => h) t9 h7 h8 hown hK a2 a3 a4 (px Γ o) (wO_at hs) h1 k h2 (hts _ h5) (fun _ h => h) h6 (h7 k h2) z1 z2 (by rw [fsO_len]; exact hkN) d (fun H1 locs1 hP1 hD1 hS1 => ?_)
  have e0 : (fsO (wad Γ) M o ci).set k (.ref (wad Γ v)) = fsO (wad Γ) (sR M o k (some v)) o ci := by
    have := fsO_set (ad := wad Γ) (M := M) (M' := sR M o k (some v)) (o := o) (ci := ci) hkN (fun j q hj => by simp only [fVal]; split <;> first | rfl | (rw [gR_sR, if_neg (fun z => hj z.2)]; done))
    rw [h3] at this
    simp only [fVal, gR_sR, and_self, if_true, Option.map_some, va_rf] at this; exact this
  have e1 : (wO Γ M).set (px Γ o) (wad Γ o, cE (wA Γ) (wad Γ) (sR M o k (some v)) o (ci + 6, n)) = wO Γ (sR M o k (some v)) := wO_set hs (fun a ha q => cE_sR ha q)
  have e3 : cE (wA Γ) (wad Γ) (sR M o k (some v)) o (ci + 6, n) = (Sum.inr (ci, (fsO (wad Γ) M o ci).set k (.ref (wad Γ v))) : va_E) := by
    rw [e0]; rfl
  rw [← e3, e1] at hP1 hD1
  exact K _ hf H1 locs1 ls (hk _ a1) hP1 hD1 hS1 a5
theorem x_putFR (C : CX Γ X cc nL own ret R0) (hinit : match X with | (_, _, _, _, _, _, _, meth, _, _) => meth.name = "<init>") {o n idx ci k : Nat} {v : Nat} (hk : ∀ M, wK Γ M → wK Γ (sR M o k (some v))) {kk : Mem → Option β} {ok : Value → Prop} (lk : FPk own idx ci k 2 true ok) (hok : ok (.ref (wad Γ v))) (hs : On Γ o (ci + 6, n)) (d : decode cc pc = .ok (.putfield idx, 3)) (q : Nat) (hq : pc + 3 = q) (hf : bd (sR M o k (some v)) kk = some rM) (K : ∀ M1, kk M1 = some rM → G Γ X M1 cs sl L st q) : G Γ X M cs sl L (.ref (wad Γ v) :: .ref (wad Γ o) :: st) pc := by
  subst hq
  obtain ⟨p, e, R, s, m, args, below, meth, c, Q⟩ := X
  obtain ⟨hx, hb, hml, hown, hts, hW, hlk, hret, hR, hK, hSs, hG⟩ := C
  intro H locs ls a1 a2 a3 a4 a5
  obtain ⟨C, T, N, t9, h1, h2, h3, h4, h5, h6, h6b, h7, h8, h9⟩ := lk
  obtain ⟨z1, z2⟩ := h9 _ hok
  have hkN : k < nFd ci := by rw [nFd_of h1]; exact h2
  refine va_putF hx hb (Ts := u_ws C T N) (fun w hw => hts w (h4 w hw)) (fun w h => h) t9 h7 h8 hown hK a2 a3 a4 (px Γ o) (wO_at hs) h1 k h2 (hts _ h5) (fun _ h => h) h6 hinit (h6b rfl) (h7 k h2) z1 z2 (by rw [fsO_len]; exact hkN) d (fun H1 locs1 hP1 hD1 hS1 => ?_)
  have e0 : (fsO (wad Γ) M o ci).set k (.ref (wad Γ v)) = fsO (wad Γ) (sR M o k (some v)) o ci := by
    have := fsO_set (ad := wad Γ) (M := M) (M' := sR M o k (some v)) (o := o) (ci := ci) hkN (fun j q hj => by simp only [fVal]; split <;> first | rfl | (rw [gR_sR, if_neg (fun z => hj z.2)]; done))
    rw [h3] at this
    simp only [fVal, gR_sR, and_self, if_true, Option.map_some, va_rf] at this; exact this
  have e1 : (wO Γ M).set (px Γ o) (wad Γ o, cE (wA Γ) (wad Γ) (sR M o k (some v)) o (ci + 6, n)) = wO Γ (sR M o k (some v)) := wO_set hs (fun a ha q => cE_sR ha q)
  have e3 : cE (wA Γ) (wad Γ) (sR M o k (some v)) o (ci + 6, n) = (Sum.inr (ci, (fsO (wad Γ) M o ci).set k (.ref (wad Γ v))) : va_E) := by
    rw [e0]; rfl
  rw [← e3, e1] at hP1 hD1
  exact K _ hf H1 locs1 ls (hk _ a1) hP1 hD1 hS1 a5
theorem x_aast (C : CX Γ X cc nL own ret R0) {o n v n9 : Nat} {i : Int32} {k : Mem → Option β} (hn : n < 1000) (hk : ∀ M, wK Γ M → wK Γ (sR M o i.toNatClampNeg (some v))) (hs : On Γ o (5, n)) (hv : On Γ v (13, n9)) (d : decode cc pc = .ok (.aastore, 1)) (q : Nat) (hq : pc + 1 = q) (hf : wrR M o n i v k = some rM) (K : ∀ M1, k M1 = some rM → G Γ X M1 cs sl L st q) : G Γ X M cs sl L (.ref (wad Γ v) :: .int i :: .ref (wad Γ o) :: st) pc := by
  subst hq
  obtain ⟨p, e, R, s, m, args, below, meth, c, Q⟩ := X
  obtain ⟨hx, hb, hml, hown, hts, hW, hlk, hret, hR, hK, hSs, hG⟩ := C
  intro H locs ls a1 a2 a3 a4 a5
  obtain ⟨hi, hf⟩ := if_some hf
  have z1 : ∀ (M : Mem), cE (wA Γ) (wad Γ) M o (5, n) = .inl (wA Γ 5, n, .inr (.inr (.inr (.inr (fun j => (gR M o j).map (wad Γ)))))) := fun M => by
    have := cE_q (dA := wA Γ) (ad := wad Γ) (M := M) (o := o) (k := 0) hn
    rw [Nat.mul_zero, Nat.zero_add] at this
    exact this
  have hs1 : (wO Γ M)[px Γ o]? = some (wad Γ o, .inl (wA Γ 5, n, .inr (.inr (.inr (.inr (fun j => (gR M o j).map (wad Γ))))))) := by rw [wO_at hs, z1]
  have hv1 : (wO Γ M)[px Γ v]? = some (wad Γ v, .inr (7, fsO (wad Γ) M v 7)) := wO_at hv
  refine va_astq hx hb hK a2 a3 a4 (px Γ o) 4 (px Γ v) 7 hs1 rfl hv1 rfl (inB_in hi) d (fun H1 locs1 hP1 hD1 hS1 => ?_)
  have e1 : (wO Γ M).set (px Γ o) (wad Γ o, cE (wA Γ) (wad Γ) (sR M o i.toNatClampNeg (some v)) o (5, n)) = wO Γ (sR M o i.toNatClampNeg (some v)) := wO_set hs (fun a ha q => cE_sR ha q)
  have e2 : (fun j => (gR (sR M o i.toNatClampNeg (some v)) o j).map (wad Γ)) = va_up (fun j => (gR M o j).map (wad Γ)) i.toNatClampNeg (some (wad Γ v)) := by
    funext j
    simp only [gR_sR, va_up, true_and]
    split <;> rfl
  have e3 : cE (wA Γ) (wad Γ) (sR M o i.toNatClampNeg (some v)) o (5, n) = (Sum.inl (wA Γ 5, n, Sum.inr (Sum.inr (Sum.inr (Sum.inr (va_up (fun j => (gR M o j).map (wad Γ)) i.toNatClampNeg (some (wad Γ v))))))) : va_E) := by
    rw [← e2, z1]
  rw [← e3, e1] at hP1 hD1
  exact K _ hf H1 locs1 ls (hk _ a1) hP1 hD1 hS1 a5
end Steps2
end
section
/-! ends of a walk, calls, throws -/
theorem mw_len {y : MethodName} {bytes : ByteArray} {maxL : Nat} {rt : Option FieldType} {n : Nat} (h : MW y bytes maxL rt n) : ∀ sig, parseMethodDescriptor y.desc = some sig → n = sig.parameters.length := by
  intro sig hs
  have h2 := h.2.2.2
  rw [hs] at h2
  exact (Option.some.inj h2).symm
/-- room that a call asks of its caller -/
def RO (rm R0 : Room) (maxL cs sl : Nat) : Prop := rm.frames + 1 ≤ R0.frames ∧ 8 + (maxL + 11) + rm.locals ≤ R0.locals ∧ cs + rm.cells ≤ R0.cells ∧ sl + rm.slots ≤ R0.slots
theorem ro_of {n n' mc ms mc' ms' maxL cs sl : Nat} (h : n' + 1 ≤ n) (hm : maxL ≤ 24) (hc : cs + mc' ≤ mc) (hs : sl + ms' ≤ ms) : RO (rmL n' mc' ms') (rmL n mc ms) maxL cs sl := by
  refine ⟨?_, ?_, hc, hs⟩
  · show n' + 1 + 1 ≤ n + 1
    omega
  · show 8 + (maxL + 11) + 44 * (n' + 1) ≤ 44 * (n + 1)
    omega
section Ends
variable {Γ : WC} {X : MX} {M M1 : Mem} {cs sl mc ms : Nat} {L : List (Option Value)} {st : List Value} {pc : Nat} {cc : ByteArray} {nL : Nat} {own : String} {ret : Option FieldType} {R0 : Room} {β : Type}
theorem S_nil {A : Nat → Prop} {H0 H : Heap} {locs : List Loc} (h : va_S A H0 H locs) : va_S A H0 H [] := ⟨h.1, h.2.1, fun _ z => nomatch z⟩
theorem x_iret {rM : Int32 × Mem} {x : Int32} (C : CX Γ X cc nL own (some .int) R0) (E : EndN Γ X (some (.int rM.1)) rM.2 mc ms) (hf : some (x, M) = some rM) (hc : cs ≤ mc) (hs : sl ≤ ms) (d : decode cc pc = .ok (.ireturn, 1)) : G Γ X M cs sl L [.int x] pc := by
  obtain ⟨p, e, R, s, m, args, below, meth, c, Q⟩ := X
  obtain ⟨hx, hb, hml, hown, hts, hW, hlk, hret, hR, hK, hSs, hG⟩ := C
  cases hf
  intro H locs ls a1 a2 a3 a4 a5
  refine W.widen hc hs ?_
  rw [show Q = _ from E]
  exact W.iret hx hb hret (fun t ht hW1 => ⟨rfl, a1, State.WarmedH.trans hW hW1, by rw [ht]; exact S_nil a4, by rw [ht]; exact a2, a3⟩) a4.2.2 d hlk
theorem x_zret {rM : Int32 × Mem} {x : Int32} (C : CX Γ X cc nL own (some .boolean) R0) (E : EndN Γ X (some (.int rM.1)) rM.2 mc ms) (hz : x &&& 1 = x) (hf : some (x, M) = some rM) (hc : cs ≤ mc) (hs : sl ≤ ms) (d : decode cc pc = .ok (.ireturn, 1)) : G Γ X M cs sl L [.int x] pc := by
  obtain ⟨p, e, R, s, m, args, below, meth, c, Q⟩ := X
  obtain ⟨hx, hb, hml, hown, hts, hW, hlk, hret, hR, hK, hSs, hG⟩ := C
  cases hf
  intro H locs ls a1 a2 a3 a4 a5
  refine W.widen hc hs ?_
  rw [show Q = _ from E]
  exact W.zret hx hb hret (by simp only [narrow, hz]) (fun t ht hW1 => ⟨rfl, a1, State.WarmedH.trans hW hW1, by rw [ht]; exact S_nil a4, by rw [ht]; exact a2, a3⟩) a4.2.2 d hlk
theorem x_lret {rM : Int64 × Mem} {x : Int64} (C : CX Γ X cc nL own (some .long) R0) (E : EndN Γ X (some (.long rM.1)) rM.2 mc ms) (hf : some (x, M) = some rM) (hc : cs ≤ mc) (hs : sl ≤ ms) (d : decode cc pc = .ok (.lreturn, 1)) : G Γ X M cs sl L [.long x] pc := by
  obtain ⟨p, e, R, s, m, args, below, meth, c, Q⟩ := X
  obtain ⟨hx, hb, hml, hown, hts, hW, hlk, hret, hR, hK, hSs, hG⟩ := C
  cases hf
  intro H locs ls a1 a2 a3 a4 a5
  refine W.widen hc hs ?_
  rw [show Q = _ from E]
  exact W.lret hx hb hret (fun t ht hW1 => ⟨rfl, a1, State.WarmedH.trans hW hW1, by rw [ht]; exact S_nil a4, by rw [ht]; exact a2, a3⟩) a4.2.2 d hlk
theorem x_fret {rM : UInt32 × Mem} {x : UInt32} (C : CX Γ X cc nL own (some .float) R0) (E : EndN Γ X (some (.float rM.1)) rM.2 mc ms) (hf : some (x, M) = some rM) (hc : cs ≤ mc) (hs : sl ≤ ms) (d : decode cc pc = .ok (.freturn, 1)) : G Γ X M cs sl L [.float x] pc := by
  obtain ⟨p, e, R, s, m, args, below, meth, c, Q⟩ := X
  obtain ⟨hx, hb, hml, hown, hts, hW, hlk, hret, hR, hK, hSs, hG⟩ := C
  cases hf
  intro H locs ls a1 a2 a3 a4 a5
  refine W.widen hc hs ?_
  rw [show Q = _ from E]
  exact W.fret hx hb hret (fun t ht hW1 => ⟨rfl, a1, State.WarmedH.trans hW hW1, by rw [ht]; exact S_nil a4, by rw [ht]; exact a2, a3⟩) a4.2.2 d hlk
theorem x_vret {rM : Unit × Mem} (C : CX Γ X cc nL own none R0) (E : EndN Γ X none rM.2 mc ms) (hf : some ((), M) = some rM) (hc : cs ≤ mc) (hs : sl ≤ ms) (d : decode cc pc = .ok (.return_, 1)) : G Γ X M cs sl L [] pc := by
  obtain ⟨p, e, R, s, m, args, below, meth, c, Q⟩ := X
  obtain ⟨hx, hb, hml, hown, hts, hW, hlk, hret, hR, hK, hSs, hG⟩ := C
  cases hf
  intro H locs ls a1 a2 a3 a4 a5
  refine W.widen hc hs ?_
  rw [show Q = _ from E]
  exact W.vret hx hb hret (fun t ht hW1 => ⟨rfl, a1, State.WarmedH.trans hW hW1, by rw [ht]; exact S_nil a4, by rw [ht]; exact a2, a3⟩) a4.2.2 d hlk
/-- ends of a method that may throw -/
theorem t_iret {rM : Except Nat Int32 × Mem} {x : Int32} (C : CX Γ X cc nL own (some .int) R0) (E : EndT Γ X (fun v => some (.int v)) rM mc ms) (hf : some (.ok x, M) = some rM) (hc : cs ≤ mc) (hs : sl ≤ ms) (d : decode cc pc = .ok (.ireturn, 1)) : G Γ X M cs sl L [.int x] pc := by
  obtain ⟨p, e, R, s, m, args, below, meth, c, Q⟩ := X
  obtain ⟨hx, hb, hml, hown, hts, hW, hlk, hret, hR, hK, hSs, hG⟩ := C
  cases hf
  intro H locs ls a1 a2 a3 a4 a5
  refine W.widen hc hs ?_
  rw [show Q = _ from E.1]
  exact vx_ret (W.iret hx hb hret (fun t ht hW1 => ⟨_, rfl, rfl, a1, State.WarmedH.trans hW hW1, by rw [ht]; exact S_nil a4, by rw [ht]; exact a2, a3⟩) a4.2.2 d hlk)
theorem t_zret {rM : Except Nat Int32 × Mem} {x : Int32} (C : CX Γ X cc nL own (some .boolean) R0) (E : EndT Γ X (fun v => some (.int v)) rM mc ms) (hz : x &&& 1 = x) (hf : some (.ok x, M) = some rM) (hc : cs ≤ mc) (hs : sl ≤ ms) (d : decode cc pc = .ok (.ireturn, 1)) : G Γ X M cs sl L [.int x] pc := by
  obtain ⟨p, e, R, s, m, args, below, meth, c, Q⟩ := X
  obtain ⟨hx, hb, hml, hown, hts, hW, hlk, hret, hR, hK, hSs, hG⟩ := C
  cases hf
  intro H locs ls a1 a2 a3 a4 a5
  refine W.widen hc hs ?_
  rw [show Q = _ from E.1]
  exact vx_ret (W.zret hx hb hret (by simp only [narrow, hz]) (fun t ht hW1 => ⟨_, rfl, rfl, a1, State.WarmedH.trans hW hW1, by rw [ht]; exact S_nil a4, by rw [ht]; exact a2, a3⟩) a4.2.2 d hlk)
theorem t_lret {rM : Except Nat Int64 × Mem} {x : Int64} (C : CX Γ X cc nL own (some .long) R0) (E : EndT Γ X (fun v => some (.long v)) rM mc ms) (hf : some (.ok x, M) = some rM) (hc : cs ≤ mc) (hs : sl ≤ ms) (d : decode cc pc = .ok (.lreturn, 1)) : G Γ X M cs sl L [.long x] pc := by
  obtain ⟨p, e, R, s, m, args, below, meth, c, Q⟩ := X
  obtain ⟨hx, hb, hml, hown, hts, hW, hlk, hret, hR, hK, hSs, hG⟩ := C
  cases hf
  intro H locs ls a1 a2 a3 a4 a5
  refine W.widen hc hs ?_
  rw [show Q = _ from E.1]
  exact vx_ret (W.lret hx hb hret (fun t ht hW1 => ⟨_, rfl, rfl, a1, State.WarmedH.trans hW hW1, by rw [ht]; exact S_nil a4, by rw [ht]; exact a2, a3⟩) a4.2.2 d hlk)
theorem t_fret {rM : Except Nat UInt32 × Mem} {x : UInt32} (C : CX Γ X cc nL own (some .float) R0) (E : EndT Γ X (fun v => some (.float v)) rM mc ms) (hf : some (.ok x, M) = some rM) (hc : cs ≤ mc) (hs : sl ≤ ms) (d : decode cc pc = .ok (.freturn, 1)) : G Γ X M cs sl L [.float x] pc := by
  obtain ⟨p, e, R, s, m, args, below, meth, c, Q⟩ := X
  obtain ⟨hx, hb, hml, hown, hts, hW, hlk, hret, hR, hK, hSs, hG⟩ := C
  cases hf
  intro H locs ls a1 a2 a3 a4 a5
  refine W.widen hc hs ?_
  rw [show Q = _ from E.1]
  exact vx_ret (W.fret hx hb hret (fun t ht hW1 => ⟨_, rfl, rfl, a1, State.WarmedH.trans hW hW1, by rw [ht]; exact S_nil a4, by rw [ht]; exact a2, a3⟩) a4.2.2 d hlk)
theorem t_vret {rM : Except Nat Unit × Mem} (C : CX Γ X cc nL own none R0) (E : EndT Γ X (fun _ => none) rM mc ms) (hf : some (.ok (), M) = some rM) (hc : cs ≤ mc) (hs : sl ≤ ms) (d : decode cc pc = .ok (.return_, 1)) : G Γ X M cs sl L [] pc := by
  obtain ⟨p, e, R, s, m, args, below, meth, c, Q⟩ := X
  obtain ⟨hx, hb, hml, hown, hts, hW, hlk, hret, hR, hK, hSs, hG⟩ := C
  cases hf
  intro H locs ls a1 a2 a3 a4 a5
  refine W.widen hc hs ?_
  rw [show Q = _ from E.1]
  exact vx_ret (W.vret hx hb hret (fun t ht hW1 => ⟨_, rfl, rfl, a1, State.WarmedH.trans hW hW1, by rw [ht]; exact S_nil a4, by rw [ht]; exact a2, a3⟩) a4.2.2 d hlk)
/-- 'throw new E("text")' -/
theorem t_throw {α : Type} {tv : α → Option Value} {rM : Except Nat α × Mem} {n9 : Nat} (C : CX Γ X cc nL own ret R0) (E : EndT Γ X tv rM mc ms) {text : String} {ik is ic sa : Nat} (hf : some (.error n9, M) = some rM) (hc : cs + 1 ≤ mc) (hs : sl + 6 ≤ ms) (hR : 6 ≤ R0.frames ∧ 90 ≤ R0.locals ∧ mc ≤ R0.cells ∧ ms ≤ R0.slots) (hw : (st.map fun v => v.category).sum ≤ 8)
    (hcls : Bundle.fit (xN n9) = true) (hk : Gd (.classLink own ik (xN n9))) (hini : Gd (.initialized (xN n9))) (hstr : vk_R own is text sa (wU Γ)) (hat : ∀ w ∈ vx_atS own ic (xN n9) ["java/lang/RuntimeException", "java/lang/Exception"], Gd w) (hgd : ∀ w ∈ Cond.classLink own ik (xN n9) :: Cond.initialized (xN n9) :: vx_atS own ic (xN n9) ["java/lang/RuntimeException", "java/lang/Exception"], vx_ot w = true)
    (d0 : decode cc pc = .ok (.new ik, 3)) (d3 : decode cc (pc + 3) = .ok (.dup, 1)) (d4 : decode cc (pc + 4) = .ok (.ldc is, 2)) (d6 : decode cc (pc + 6) = .ok (.invokespecial ic, 3)) (d9 : decode cc (pc + 9) = .ok (.athrow, 1)) : G Γ X M cs sl L st pc := by
  obtain ⟨p, e, R, s, m, args, below, meth, c, Q⟩ := X
  obtain ⟨hx, hb, hml, hown, hts, hW, hlk, hret, rfl, hK, hSs, hG⟩ := C
  cases hf
  intro H locs ls a1 a2 a3 a4 a5
  rw [show Q = _ from E.1]
  have hno := E.2
  intro T hT X9
  have hsz : s.heap.size ≤ H.size := by
    have h2 := X9.same.2.1
    rw [← hT]
    exact h2
  have hS9 : va_S (fAg Γ) s.heap H locs := ⟨hsz, fun q h1 h2 => by
    have hq : q < (wU Γ).heap.size := Nat.lt_of_not_le h2
    rw [a4.2.1 q hq h2, hSs.2.1 q hq h2], a4.2.2⟩
  have hU := (hG.2.2.2.1.kept hSs.2.1).moved hW.alike
  have hN := (hG.2.2.2.2.1.kept hSs.2.1).moved hW.alike
  exact vx_throwS hx hb hG.2.2.1 hown hcls (by decide) (hts _ hk) (hts _ hini) (vk_R.warm hW hstr) (fun w h => hts w (hat w h)) hgd hU hN hS9 (by rw [a5.1]) d0 d3 d4 d6 d9 (fun x h => absurd (hno x h) id) (by show 2 + 3 < _; omega) (by show _ + (13 * (2 + 1) + 43) ≤ _; omega) (by omega) (by omega) hlk
    (fun t hv h1 h2 => ⟨_, rfl, rfl, a1, ⟨Nat.le_trans a4.1 h1, fun q h3 h4 => by rw [h2 q (Nat.lt_of_lt_of_le h3 a4.1)]; exact a4.2.1 q h3 h4, fun _ z => nomatch z⟩, a2.kept (fun k q hk => h2 q.1 (a2 k q hk).lt), a3⟩) a4.2.2 hc hs T hT X9
end Ends

section Calls
variable {Γ : WC} {X : MX} {M M1 : Mem} {cs sl : Nat} {L : List (Option Value)} {st : List Value} {pc : Nat} {cc : ByteArray} {nL : Nat} {own : String} {ret : Option FieldType} {R0 : Room}
/-- behind a call that returned -/
theorem callN {p : Program} {l : Launch} {e : Env} {R : Room} {s : State} {m : MethodId} {args : Array Value} {below : List Frame} {meth : Method} {c : Code} {H : Heap} {locs : List Loc} {mc ms : Nat} {Q : State → Prop} {ls : Array Slot} {st0 rest : List Value} {v : Option Value}
    (hr : va_Run p l e R s m args below meth c H locs cs sl mc ms (F0 m pc ls st0) rest (fun _ o t => o = .returned v ∧ WP Γ M1 t) (fAg Γ)) (hS : va_S (fAg Γ) (wU Γ).heap H locs)
    (kk : ∀ (H1 : Heap) (locs1 : List Loc), wK Γ M1 → va_P (wD Γ) vwCl (wO Γ M1) H1 → va_D (fAg Γ) (wO Γ M1) → va_S (fAg Γ) (wU Γ).heap H1 locs1 → W p l e R s m args below meth c H1 locs1 (cs + mc) (sl + ms) Q (F0 m (pc + 3) ls (v.toList ++ rest))) : W p l e R s m args below meth c H locs cs sl Q (F0 m pc ls st0) := by
  intro T hT X
  obtain ⟨v', st₀, t, T', L, h0, X', hL, e1, e2, ⟨hv, hK, hW, hS1, hP1, hD1⟩, st⟩ := hr T hT X
  cases hv
  obtain ⟨t2, a1, b1⟩ := kk T'.heap (locs ++ L) hK (by rw [e1]; exact hP1) hD1 ⟨by rw [e1]; exact hS1.1, fun q h1 h2 => by rw [e1]; exact hS1.2.1 q h1 h2, fun q hq => (List.mem_append.mp hq).elim (hS.2.2 q) (hL q)⟩ T' rfl X'
  exact ⟨t2, st t2 a1, b1⟩
/-- a frame over which an exception of class xN n goes -/
def GX (Γ : WC) (X : MX) (M : Mem) (cs sl : Nat) (L : List (Option Value)) (st : List Value) (pc n : Nat) : Prop := match X with
  | (p, e, R, s, m, args, below, meth, c, Q) => ∀ (H : Heap) (locs : List Loc) (ls : Array Slot) (q : Addr) (ce : Cell), wK Γ M → va_P (wD Γ) vwCl (wO Γ M) H → va_D (fAg Γ) (wO Γ M) → va_S (fAg Γ) (wU Γ).heap H locs → lv_has ls c.maxLocals (lO 0 L) → H[q]? = some ce → ce.vm = .none → s.vm.findClass (xN n) = some ce.cls → vx_W p (wl Γ) e R s m args below meth c H locs cs sl Q (F0 m pc ls st) q
theorem callX {α : Type} {tv : α → Option Value} {r : Except Nat α × Mem} {p : Program} {l : Launch} {e : Env} {R : Room} {s : State} {m : MethodId} {args : Array Value} {below : List Frame} {meth : Method} {c : Code} {H : Heap} {locs : List Loc} {mc ms : Nat} {Q : State → Prop} {ls : Array Slot} {st0 rest : List Value}
    {a0 : Array Value} (hr : vx_Run p l e R s m args below meth c H locs cs sl mc ms (F0 m pc ls st0) rest (QcT Γ tv r a0) (XcT Γ r) (fAg Γ)) (hS : va_S (fAg Γ) (wU Γ).heap H locs) (hWs : (wU Γ).WarmedH s.vm)
    (kk : ∀ (v : α) (H1 : Heap) (locs1 : List Loc), r.1 = .ok v → wK Γ r.2 → va_P (wD Γ) vwCl (wO Γ r.2) H1 → va_D (fAg Γ) (wO Γ r.2) → va_S (fAg Γ) (wU Γ).heap H1 locs1 → W p l e R s m args below meth c H1 locs1 (cs + mc) (sl + ms) Q (F0 m (pc + 3) ls ((tv v).toList ++ rest)))
    (kx : ∀ (n : Nat) (H1 : Heap) (locs1 : List Loc) (q : Addr) (ce : Cell), r.1 = .error n → wK Γ r.2 → va_P (wD Γ) vwCl (wO Γ r.2) H1 → va_D (fAg Γ) (wO Γ r.2) → va_S (fAg Γ) (wU Γ).heap H1 locs1 → H1[q]? = some ce → ce.vm = .none → s.vm.findClass (xN n) = some ce.cls → vx_W p l e R s m args below meth c H1 locs1 (cs + mc) (sl + ms) Q (F0 m pc ls rest) q) : W p l e R s m args below meth c H locs cs sl Q (F0 m pc ls st0) := by
  intro T hT X
  rcases hr T hT X with ⟨v', st₀, t, T', L, h0, X', hL, e1, e2, ⟨x, hx, hv, hK, hW, hS1, hP1, hD1⟩, st⟩ | ⟨q, st₀, t, T', L, E, ce, h0, X', hL, e1, e2, ⟨n, hx, rfl, hK, hS1, hP1, hD1⟩, hce, hcv, hcl, st⟩
  · cases hv
    obtain ⟨t2, a1, b1⟩ := kk x T'.heap (locs ++ L) hx hK (by rw [e1]; exact hP1) hD1 ⟨by rw [e1]; exact hS1.1, fun q h1 h2 => by rw [e1]; exact hS1.2.1 q h1 h2, fun q hq => (List.mem_append.mp hq).elim (hS.2.2 q) (hL q)⟩ T' rfl X'
    exact ⟨t2, st t2 a1, b1⟩
  · obtain ⟨t2, a1, b1⟩ := kx n T'.heap (locs ++ L) q ce hx hK (by rw [e1]; exact hP1) hD1 ⟨by rw [e1]; exact hS1.1, fun q h1 h2 => by rw [e1]; exact hS1.2.1 q h1 h2, fun q hq => (List.mem_append.mp hq).elim (hS.2.2 q) (hL q)⟩ (by rw [e1]; exact hce) hcv hcl T' rfl X'
    exact ⟨t2, st.trans a1, b1⟩
end Calls
section Calls2
variable {Γ : WC} {X : MX} {M M1 : Mem} {cs sl mcX msX : Nat} {L : List (Option Value)} {st stk As : List Value} {pc idx n o ci nn maxL : Nat} {cc bytes : ByteArray} {nL : Nat} {own host : String} {ret rt : Option FieldType} {R0 rm : Room} {y : MethodName} {b : Addr}
def pr {α : Type} (n : Nat) (m : Mem) : Option (Except Nat α × Mem) := some (.error n, m)
/-- the class of a receiver -/
def RC (Γ : WC) (o : Nat) (c : String) : Prop := ∃ ci nn q, On Γ o (ci + 6, nn) ∧ vwCl[ci]? = some q ∧ q.1 = c
theorem RC.recv {Γ : WC} {o : Nat} {c : String} (h : RC Γ o c) {s : State} {H : Heap} {M : Mem} (hK : va_K (wD Γ) vwCl (tysA (wA Γ)) s) (hP : va_P (wD Γ) vwCl (wO Γ M) H) : ∃ cell : Cell, H[wad Γ o]? = some cell ∧ cell.vm.isStatics = false ∧ s.vm.findClass c = some cell.cls := by
  obtain ⟨ci, nn, q, h1, h2, rfl⟩ := h
  exact va_recv hK hP h2 (wO_at h1)
theorem cw_B {s9 : State} {args9 : Array Value} (hW : (wU Γ).WarmedH s9.vm) (hts : ∀ w, Gd w → w.before args9 s9 = true) (hG : HG Γ) (mw : MW y bytes maxL rt n) (hr : RO rm R0 maxL cs sl) (ln : Gd (.methodLink own idx y)) : CallB R0 s9 args9 own idx y bytes maxL rt [Cond.code y bytes maxL rt] rm rm.cells rm.slots n :=
  ⟨rfl, rfl, hr.1, hr.2.1, fun w hw a U hU => by
    rw [List.mem_singleton.mp hw]
    exact hG.1 _ mw.2.1 _ _ (State.WarmedH.trans hW hU), List.mem_singleton.mpr rfl, hts _ mw.2.1, hts _ mw.1, mw.2.2.1, mw_len mw, hts _ ln⟩
theorem cw_N {s9 : State} {args9 : Array Value} (hW : (wU Γ).WarmedH s9.vm) (hts : ∀ w, Gd w → w.before args9 s9 = true) (hG : HG Γ) (mw : MW y bytes maxL rt n) (hr : RO rm R0 maxL cs sl) (ln : Gd (.methodLinkNest own idx y host)) : va_CN R0 s9 args9 own idx y host bytes maxL rt [Cond.code y bytes maxL rt] rm rm.cells rm.slots n :=
  ⟨⟨rfl, rfl, hr.1, hr.2.1, fun w hw a U hU => by
    rw [List.mem_singleton.mp hw]
    exact hG.1 _ mw.2.1 _ _ (State.WarmedH.trans hW hU), List.mem_singleton.mpr rfl⟩, hts _ mw.2.1, hts _ mw.1, mw.2.2.1, mw_len mw, hts _ ln⟩
theorem x_cV {v : Option Value} (C : CX Γ X cc nL own ret R0) (hM : Ct Γ y bytes maxL rt rm (.ref (wad Γ o) :: As) M v M1) (mw : MW y bytes maxL rt n) (ln : Gd (.methodLink own idx y)) (mi : Gd (.instanceMethod y) ∧ Gd (.selects y.cls y y)) (ho : RC Γ o y.cls) (hr : RO rm R0 maxL cs sl) (hn : As.length = n) (hst : stk = As.reverse ++ .ref (wad Γ o) :: st) (hw : (st.map fun v => v.category).sum ≤ 8) (d : decode cc pc = .ok (.invokevirtual idx, 3)) (q : Nat) (hq : pc + 3 = q) (cs1 sl1 : Nat) (ec : cs + rm.cells = cs1) (es : sl + rm.slots = sl1) (K : G Γ X M1 cs1 sl1 L (v.toList ++ st) q) : G Γ X M cs sl L stk pc := by
  obtain ⟨p, e, R, s, m, args, below, meth, c, Q⟩ := X
  obtain ⟨hx, hb, hml, hown, hts, hW, hlk, hret, rfl, hK, hSs, hG⟩ := C
  subst hst; subst hml; subst hq; subst ec; subst es
  intro H locs ls a1 a2 a3 a4 a5
  exact callN (va_runV (Ts := []) (own := own) ⟨hx, hb, rfl, hown, fun _ h => nomatch h⟩ hM ⟨cw_B hW hts hG mw hr ln, hts _ mi.1, hts _ mi.2⟩ ⟨WP.blind, ho.recv hK a2, fun U hU hU2 => ⟨rfl, a1, State.WarmedH.trans hW hU2, by rw [hU]; exact S_nil a4, by rw [hU]; exact a2, a3⟩⟩ rfl hn a5.1 rfl (lv_room hw) d ⟨hr.2.2.1, hr.2.2.2⟩) a4 (fun H1 locs1 b1 b2 b3 b4 => K H1 locs1 ls b1 b2 b3 b4 a5)
theorem x_cVi {x : Int32} (C : CX Γ X cc nL own ret R0) (hM : Ct Γ y bytes maxL rt rm (.ref (wad Γ o) :: As) M (some (.int x)) M1) (mw : MW y bytes maxL rt n) (ln : Gd (.methodLink own idx y)) (mi : Gd (.instanceMethod y) ∧ Gd (.selects y.cls y y)) (ho : RC Γ o y.cls) (hr : RO rm R0 maxL cs sl) (hn : As.length = n) (hst : stk = As.reverse ++ .ref (wad Γ o) :: st) (hw : (st.map fun v => v.category).sum ≤ 8) (d : decode cc pc = .ok (.invokevirtual idx, 3)) (q : Nat) (hq : pc + 3 = q) (cs1 sl1 : Nat) (ec : cs + rm.cells = cs1) (es : sl + rm.slots = sl1) (K : G Γ X M1 cs1 sl1 L (.int x :: st) q) : G Γ X M cs sl L stk pc := x_cV C hM mw ln mi ho hr hn hst hw d q hq cs1 sl1 ec es K
theorem x_cVl {x : Int64} (C : CX Γ X cc nL own ret R0) (hM : Ct Γ y bytes maxL rt rm (.ref (wad Γ o) :: As) M (some (.long x)) M1) (mw : MW y bytes maxL rt n) (ln : Gd (.methodLink own idx y)) (mi : Gd (.instanceMethod y) ∧ Gd (.selects y.cls y y)) (ho : RC Γ o y.cls) (hr : RO rm R0 maxL cs sl) (hn : As.length = n) (hst : stk = As.reverse ++ .ref (wad Γ o) :: st) (hw : (st.map fun v => v.category).sum ≤ 8) (d : decode cc pc = .ok (.invokevirtual idx, 3)) (q : Nat) (hq : pc + 3 = q) (cs1 sl1 : Nat) (ec : cs + rm.cells = cs1) (es : sl + rm.slots = sl1) (K : G Γ X M1 cs1 sl1 L (.long x :: st) q) : G Γ X M cs sl L stk pc := x_cV C hM mw ln mi ho hr hn hst hw d q hq cs1 sl1 ec es K
theorem x_cVf {x : UInt32} (C : CX Γ X cc nL own ret R0) (hM : Ct Γ y bytes maxL rt rm (.ref (wad Γ o) :: As) M (some (.float x)) M1) (mw : MW y bytes maxL rt n) (ln : Gd (.methodLink own idx y)) (mi : Gd (.instanceMethod y) ∧ Gd (.selects y.cls y y)) (ho : RC Γ o y.cls) (hr : RO rm R0 maxL cs sl) (hn : As.length = n) (hst : stk = As.reverse ++ .ref (wad Γ o) :: st) (hw : (st.map fun v => v.category).sum ≤ 8) (d : decode cc pc = .ok (.invokevirtual idx, 3)) (q : Nat) (hq : pc + 3 = q) (cs1 sl1 : Nat) (ec : cs + rm.cells = cs1) (es : sl + rm.slots = sl1) (K : G Γ X M1 cs1 sl1 L (.float x :: st) q) : G Γ X M cs sl L stk pc := x_cV C hM mw ln mi ho hr hn hst hw d q hq cs1 sl1 ec es K
theorem x_cVv (C : CX Γ X cc nL own ret R0) (hM : Ct Γ y bytes maxL rt rm (.ref (wad Γ o) :: As) M none M1) (mw : MW y bytes maxL rt n) (ln : Gd (.methodLink own idx y)) (mi : Gd (.instanceMethod y) ∧ Gd (.selects y.cls y y)) (ho : RC Γ o y.cls) (hr : RO rm R0 maxL cs sl) (hn : As.length = n) (hst : stk = As.reverse ++ .ref (wad Γ o) :: st) (hw : (st.map fun v => v.category).sum ≤ 8) (d : decode cc pc = .ok (.invokevirtual idx, 3)) (q : Nat) (hq : pc + 3 = q) (cs1 sl1 : Nat) (ec : cs + rm.cells = cs1) (es : sl + rm.slots = sl1) (K : G Γ X M1 cs1 sl1 L st q) : G Γ X M cs sl L stk pc := x_cV C hM mw ln mi ho hr hn hst hw d q hq cs1 sl1 ec es K
theorem y_cV {α β : Type} {tv : α → Option Value} {fx : Option (Except Nat α × Mem)} {k : α → Mem → Option β} {ke : Nat → Mem → Option β} {rM : β} (C : CX Γ X cc nL own ret R0) (hf : clT fx k ke = some rM) (hM : ∀ r, fx = some r → CtT Γ y bytes maxL rt rm (.ref (wad Γ o) :: As) M tv r) (mw : MW y bytes maxL rt n) (ln : Gd (.methodLink own idx y)) (mi : Gd (.instanceMethod y) ∧ Gd (.selects y.cls y y)) (ho : RC Γ o y.cls) (hr : RO rm R0 maxL cs sl) (hn : As.length = n) (hst : stk = As.reverse ++ .ref (wad Γ o) :: st) (hw : (st.map fun v => v.category).sum ≤ 8) (d : decode cc pc = .ok (.invokevirtual idx, 3)) (q : Nat) (hq : pc + 3 = q) (cs1 sl1 : Nat) (ec : cs + rm.cells = cs1) (es : sl + rm.slots = sl1) (K : ∀ v M1, k v M1 = some rM → G Γ X M1 cs1 sl1 L ((tv v).toList ++ st) q) (KE : ∀ n M1, ke n M1 = some rM → GX Γ X M1 cs1 sl1 L st pc n) : G Γ X M cs sl L stk pc := by
  cases hfx : fx with
  | none => rw [hfx] at hf; exact nomatch hf
  | some r =>
    rw [hfx] at hf
    replace hM := hM r hfx
    obtain ⟨r1, r2⟩ := r
    obtain ⟨p, e, R, s, m, args, below, meth, c, Q⟩ := X
    obtain ⟨hx, hb, hml, hown, hts, hW, hlk, hret, rfl, hK, hSs, hG⟩ := C
    subst hst; subst hml; subst hq; subst ec; subst es
    intro H locs ls a1 a2 a3 a4 a5
    refine callX (vx_runV (Ts := []) (own := own) ⟨hx, hb, rfl, hown, fun _ h => nomatch h⟩ hM ⟨cw_B hW hts hG mw hr ln, hts _ mi.1, hts _ mi.2⟩ ⟨WP.blind, ho.recv hK a2, fun U hU hU2 => ⟨rfl, a1, State.WarmedH.trans hW hU2, by rw [hU]; exact S_nil a4, by rw [hU]; exact a2, a3⟩⟩ rfl hn a5.1 rfl (lv_room hw) d ⟨hr.2.2.1, hr.2.2.2⟩) a4 hW (fun v H1 locs1 e1 b1 b2 b3 b4 => ?_) (fun n H1 locs1 q ce e1 b1 b2 b3 b4 b5 b6 b7 => ?_)
    · cases e1
      exact K _ _ hf H1 locs1 ls b1 b2 b3 b4 a5
    · cases e1
      exact KE _ _ hf H1 locs1 ls q ce b1 b2 b3 b4 a5 b5 b6 b7
theorem x_cS {v : Option Value} (C : CX Γ X cc nL own ret R0) (hM : Ct Γ y bytes maxL rt rm As M v M1) (mw : MW y bytes maxL rt n) (ln : Gd (.methodLink own idx y)) (mi : Gd (.static y)) (hr : RO rm R0 maxL cs sl) (hn : As.length = n) (hst : stk = As.reverse ++ st) (hw : (st.map fun v => v.category).sum ≤ 8) (d : decode cc pc = .ok (.invokestatic idx, 3)) (q : Nat) (hq : pc + 3 = q) (cs1 sl1 : Nat) (ec : cs + rm.cells = cs1) (es : sl + rm.slots = sl1) (K : G Γ X M1 cs1 sl1 L (v.toList ++ st) q) : G Γ X M cs sl L stk pc := by
  obtain ⟨p, e, R, s, m, args, below, meth, c, Q⟩ := X
  obtain ⟨hx, hb, hml, hown, hts, hW, hlk, hret, rfl, hK, hSs, hG⟩ := C
  subst hst; subst hml; subst hq; subst ec; subst es
  intro H locs ls a1 a2 a3 a4 a5
  exact callN (va_runS (Ts := []) (own := own) ⟨hx, hb, rfl, hown, fun _ h => nomatch h⟩ hM ⟨cw_B hW hts hG mw hr ln, hts _ mi⟩ ⟨WP.blind, fun U hU hU2 => ⟨rfl, a1, State.WarmedH.trans hW hU2, by rw [hU]; exact S_nil a4, by rw [hU]; exact a2, a3⟩⟩ rfl hn a5.1 rfl (lv_room hw) d ⟨hr.2.2.1, hr.2.2.2⟩) a4 (fun H1 locs1 b1 b2 b3 b4 => K H1 locs1 ls b1 b2 b3 b4 a5)
theorem x_cSi {x : Int32} (C : CX Γ X cc nL own ret R0) (hM : Ct Γ y bytes maxL rt rm As M (some (.int x)) M1) (mw : MW y bytes maxL rt n) (ln : Gd (.methodLink own idx y)) (mi : Gd (.static y)) (hr : RO rm R0 maxL cs sl) (hn : As.length = n) (hst : stk = As.reverse ++ st) (hw : (st.map fun v => v.category).sum ≤ 8) (d : decode cc pc = .ok (.invokestatic idx, 3)) (q : Nat) (hq : pc + 3 = q) (cs1 sl1 : Nat) (ec : cs + rm.cells = cs1) (es : sl + rm.slots = sl1) (K : G Γ X M1 cs1 sl1 L (.int x :: st) q) : G Γ X M cs sl L stk pc := x_cS C hM mw ln mi hr hn hst hw d q hq cs1 sl1 ec es K
theorem x_cSl {x : Int64} (C : CX Γ X cc nL own ret R0) (hM : Ct Γ y bytes maxL rt rm As M (some (.long x)) M1) (mw : MW y bytes maxL rt n) (ln : Gd (.methodLink own idx y)) (mi : Gd (.static y)) (hr : RO rm R0 maxL cs sl) (hn : As.length = n) (hst : stk = As.reverse ++ st) (hw : (st.map fun v => v.category).sum ≤ 8) (d : decode cc pc = .ok (.invokestatic idx, 3)) (q : Nat) (hq : pc + 3 = q) (cs1 sl1 : Nat) (ec : cs + rm.cells = cs1) (es : sl + rm.slots = sl1) (K : G Γ X M1 cs1 sl1 L (.long x :: st) q) : G Γ X M cs sl L stk pc := x_cS C hM mw ln mi hr hn hst hw d q hq cs1 sl1 ec es K
theorem x_cSf {x : UInt32} (C : CX Γ X cc nL own ret R0) (hM : Ct Γ y bytes maxL rt rm As M (some (.float x)) M1) (mw : MW y bytes maxL rt n) (ln : Gd (.methodLink own idx y)) (mi : Gd (.static y)) (hr : RO rm R0 maxL cs sl) (hn : As.length = n) (hst : stk = As.reverse ++ st) (hw : (st.map fun v => v.category).sum ≤ 8) (d : decode cc pc = .ok (.invokestatic idx, 3)) (q : Nat) (hq : pc + 3 = q) (cs1 sl1 : Nat) (ec : cs + rm.cells = cs1) (es : sl + rm.slots = sl1) (K : G Γ X M1 cs1 sl1 L (.float x :: st) q) : G Γ X M cs sl L stk pc := x_cS C hM mw ln mi hr hn hst hw d q hq cs1 sl1 ec es K
theorem x_cSv (C : CX Γ X cc nL own ret R0) (hM : Ct Γ y bytes maxL rt rm As M none M1) (mw : MW y bytes maxL rt n) (ln : Gd (.methodLink own idx y)) (mi : Gd (.static y)) (hr : RO rm R0 maxL cs sl) (hn : As.length = n) (hst : stk = As.reverse ++ st) (hw : (st.map fun v => v.category).sum ≤ 8) (d : decode cc pc = .ok (.invokestatic idx, 3)) (q : Nat) (hq : pc + 3 = q) (cs1 sl1 : Nat) (ec : cs + rm.cells = cs1) (es : sl + rm.slots = sl1) (K : G Γ X M1 cs1 sl1 L st q) : G Γ X M cs sl L stk pc := x_cS C hM mw ln mi hr hn hst hw d q hq cs1 sl1 ec es K
theorem y_cS {α β : Type} {tv : α → Option Value} {fx : Option (Except Nat α × Mem)} {k : α → Mem → Option β} {ke : Nat → Mem → Option β} {rM : β} (C : CX Γ X cc nL own ret R0) (hf : clT fx k ke = some rM) (hM : ∀ r, fx = some r → CtT Γ y bytes maxL rt rm As M tv r) (mw : MW y bytes maxL rt n) (ln : Gd (.methodLink own idx y)) (mi : Gd (.static y)) (hr : RO rm R0 maxL cs sl) (hn : As.length = n) (hst : stk = As.reverse ++ st) (hw : (st.map fun v => v.category).sum ≤ 8) (d : decode cc pc = .ok (.invokestatic idx, 3)) (q : Nat) (hq : pc + 3 = q) (cs1 sl1 : Nat) (ec : cs + rm.cells = cs1) (es : sl + rm.slots = sl1) (K : ∀ v M1, k v M1 = some rM → G Γ X M1 cs1 sl1 L ((tv v).toList ++ st) q) (KE : ∀ n M1, ke n M1 = some rM → GX Γ X M1 cs1 sl1 L st pc n) : G Γ X M cs sl L stk pc := by
  cases hfx : fx with
  | none => rw [hfx] at hf; exact nomatch hf
  | some r =>
    rw [hfx] at hf
    replace hM := hM r hfx
    obtain ⟨r1, r2⟩ := r
    obtain ⟨p, e, R, s, m, args, below, meth, c, Q⟩ := X
    obtain ⟨hx, hb, hml, hown, hts, hW, hlk, hret, rfl, hK, hSs, hG⟩ := C
    subst hst; subst hml; subst hq; subst ec; subst es
    intro H locs ls a1 a2 a3 a4 a5
    refine callX (vx_runS (Ts := []) (own := own) ⟨hx, hb, rfl, hown, fun _ h => nomatch h⟩ hM ⟨cw_B hW hts hG mw hr ln, hts _ mi⟩ ⟨WP.blind, fun U hU hU2 => ⟨rfl, a1, State.WarmedH.trans hW hU2, by rw [hU]; exact S_nil a4, by rw [hU]; exact a2, a3⟩⟩ rfl hn a5.1 rfl (lv_room hw) d ⟨hr.2.2.1, hr.2.2.2⟩) a4 hW (fun v H1 locs1 e1 b1 b2 b3 b4 => ?_) (fun n H1 locs1 q ce e1 b1 b2 b3 b4 b5 b6 b7 => ?_)
    · cases e1
      exact K _ _ hf H1 locs1 ls b1 b2 b3 b4 a5
    · cases e1
      exact KE _ _ hf H1 locs1 ls q ce b1 b2 b3 b4 a5 b5 b6 b7
theorem x_cN {v : Option Value} (C : CX Γ X cc nL own ret R0) (hM : Ct Γ y bytes maxL rt rm As M v M1) (mw : MW y bytes maxL rt n) (ln : Gd (.methodLinkNest own idx y host)) (mi : Gd (.static y)) (hr : RO rm R0 maxL cs sl) (hn : As.length = n) (hst : stk = As.reverse ++ st) (hw : (st.map fun v => v.category).sum ≤ 8) (d : decode cc pc = .ok (.invokestatic idx, 3)) (q : Nat) (hq : pc + 3 = q) (cs1 sl1 : Nat) (ec : cs + rm.cells = cs1) (es : sl + rm.slots = sl1) (K : G Γ X M1 cs1 sl1 L (v.toList ++ st) q) : G Γ X M cs sl L stk pc := by
  obtain ⟨p, e, R, s, m, args, below, meth, c, Q⟩ := X
  obtain ⟨hx, hb, hml, hown, hts, hW, hlk, hret, rfl, hK, hSs, hG⟩ := C
  subst hst; subst hml; subst hq; subst ec; subst es
  intro H locs ls a1 a2 a3 a4 a5
  exact callN (va_runSN (Ts := []) (own := own) ⟨hx, hb, rfl, hown, fun _ h => nomatch h⟩ hM ⟨cw_N hW hts hG mw hr ln, hts _ mi, trivial⟩ ⟨WP.blind, fun U hU hU2 => ⟨rfl, a1, State.WarmedH.trans hW hU2, by rw [hU]; exact S_nil a4, by rw [hU]; exact a2, a3⟩⟩ rfl hn a5.1 rfl (lv_room hw) d ⟨hr.2.2.1, hr.2.2.2⟩) a4 (fun H1 locs1 b1 b2 b3 b4 => K H1 locs1 ls b1 b2 b3 b4 a5)
theorem x_cNi {x : Int32} (C : CX Γ X cc nL own ret R0) (hM : Ct Γ y bytes maxL rt rm As M (some (.int x)) M1) (mw : MW y bytes maxL rt n) (ln : Gd (.methodLinkNest own idx y host)) (mi : Gd (.static y)) (hr : RO rm R0 maxL cs sl) (hn : As.length = n) (hst : stk = As.reverse ++ st) (hw : (st.map fun v => v.category).sum ≤ 8) (d : decode cc pc = .ok (.invokestatic idx, 3)) (q : Nat) (hq : pc + 3 = q) (cs1 sl1 : Nat) (ec : cs + rm.cells = cs1) (es : sl + rm.slots = sl1) (K : G Γ X M1 cs1 sl1 L (.int x :: st) q) : G Γ X M cs sl L stk pc := x_cN C hM mw ln mi hr hn hst hw d q hq cs1 sl1 ec es K
theorem x_cNl {x : Int64} (C : CX Γ X cc nL own ret R0) (hM : Ct Γ y bytes maxL rt rm As M (some (.long x)) M1) (mw : MW y bytes maxL rt n) (ln : Gd (.methodLinkNest own idx y host)) (mi : Gd (.static y)) (hr : RO rm R0 maxL cs sl) (hn : As.length = n) (hst : stk = As.reverse ++ st) (hw : (st.map fun v => v.category).sum ≤ 8) (d : decode cc pc = .ok (.invokestatic idx, 3)) (q : Nat) (hq : pc + 3 = q) (cs1 sl1 : Nat) (ec : cs + rm.cells = cs1) (es : sl + rm.slots = sl1) (K : G Γ X M1 cs1 sl1 L (.long x :: st) q) : G Γ X M cs sl L stk pc := x_cN C hM mw ln mi hr hn hst hw d q hq cs1 sl1 ec es K
theorem x_cNf {x : UInt32} (C : CX Γ X cc nL own ret R0) (hM : Ct Γ y bytes maxL rt rm As M (some (.float x)) M1) (mw : MW y bytes maxL rt n) (ln : Gd (.methodLinkNest own idx y host)) (mi : Gd (.static y)) (hr : RO rm R0 maxL cs sl) (hn : As.length = n) (hst : stk = As.reverse ++ st) (hw : (st.map fun v => v.category).sum ≤ 8) (d : decode cc pc = .ok (.invokestatic idx, 3)) (q : Nat) (hq : pc + 3 = q) (cs1 sl1 : Nat) (ec : cs + rm.cells = cs1) (es : sl + rm.slots = sl1) (K : G Γ X M1 cs1 sl1 L (.float x :: st) q) : G Γ X M cs sl L stk pc := x_cN C hM mw ln mi hr hn hst hw d q hq cs1 sl1 ec es K
theorem x_cNv (C : CX Γ X cc nL own ret R0) (hM : Ct Γ y bytes maxL rt rm As M none M1) (mw : MW y bytes maxL rt n) (ln : Gd (.methodLinkNest own idx y host)) (mi : Gd (.static y)) (hr : RO rm R0 maxL cs sl) (hn : As.length = n) (hst : stk = As.reverse ++ st) (hw : (st.map fun v => v.category).sum ≤ 8) (d : decode cc pc = .ok (.invokestatic idx, 3)) (q : Nat) (hq : pc + 3 = q) (cs1 sl1 : Nat) (ec : cs + rm.cells = cs1) (es : sl + rm.slots = sl1) (K : G Γ X M1 cs1 sl1 L st q) : G Γ X M cs sl L stk pc := x_cN C hM mw ln mi hr hn hst hw d q hq cs1 sl1 ec es K
theorem x_cI {v : Option Value} (C : CX Γ X cc nL own ret R0) (hM : Ct Γ y bytes maxL none rm (.ref (wad Γ o) :: As) M v M1) (mw : MW y bytes maxL none n) (ln : Gd (.methodLink own idx y)) (mi : Gd (.instanceMethod y) ∧ y.name = "<init>") (hr : RO rm R0 maxL cs sl) (hn : As.length = n) (hst : stk = As.reverse ++ .ref (wad Γ o) :: st) (hw : (st.map fun v => v.category).sum ≤ 8) (d : decode cc pc = .ok (.invokespecial idx, 3)) (q : Nat) (hq : pc + 3 = q) (cs1 sl1 : Nat) (ec : cs + rm.cells = cs1) (es : sl + rm.slots = sl1) (K : G Γ X M1 cs1 sl1 L (v.toList ++ st) q) : G Γ X M cs sl L stk pc := by
  obtain ⟨p, e, R, s, m, args, below, meth, c, Q⟩ := X
  obtain ⟨hx, hb, hml, hown, hts, hW, hlk, hret, rfl, hK, hSs, hG⟩ := C
  subst hst; subst hml; subst hq; subst ec; subst es
  intro H locs ls a1 a2 a3 a4 a5
  exact callN (va_runI (Ts := []) (own := own) ⟨hx, hb, rfl, hown, fun _ h => nomatch h⟩ hM ⟨cw_B hW hts hG mw hr ln, mi.2, hts _ mi.1⟩ ⟨WP.blind, fun U hU hU2 => ⟨rfl, a1, State.WarmedH.trans hW hU2, by rw [hU]; exact S_nil a4, by rw [hU]; exact a2, a3⟩⟩ rfl hn a5.1 rfl (lv_room hw) d ⟨hr.2.2.1, hr.2.2.2⟩) a4 (fun H1 locs1 b1 b2 b3 b4 => K H1 locs1 ls b1 b2 b3 b4 a5)
theorem x_cIv (C : CX Γ X cc nL own ret R0) (hM : Ct Γ y bytes maxL none rm (.ref (wad Γ o) :: As) M none M1) (mw : MW y bytes maxL none n) (ln : Gd (.methodLink own idx y)) (mi : Gd (.instanceMethod y) ∧ y.name = "<init>") (hr : RO rm R0 maxL cs sl) (hn : As.length = n) (hst : stk = As.reverse ++ .ref (wad Γ o) :: st) (hw : (st.map fun v => v.category).sum ≤ 8) (d : decode cc pc = .ok (.invokespecial idx, 3)) (q : Nat) (hq : pc + 3 = q) (cs1 sl1 : Nat) (ec : cs + rm.cells = cs1) (es : sl + rm.slots = sl1) (K : G Γ X M1 cs1 sl1 L st q) : G Γ X M cs sl L stk pc := x_cI C hM mw ln mi hr hn hst hw d q hq cs1 sl1 ec es K
theorem x_cJ {v : Option Value} (C : CX Γ X cc nL own ret R0) (hM : Ct Γ y bytes maxL none rm (.ref (wad Γ o) :: As) M v M1) (mw : MW y bytes maxL none n) (ln : Gd (.methodLinkNest own idx y host)) (mi : Gd (.instanceMethod y) ∧ y.name = "<init>") (hr : RO rm R0 maxL cs sl) (hn : As.length = n) (hst : stk = As.reverse ++ .ref (wad Γ o) :: st) (hw : (st.map fun v => v.category).sum ≤ 8) (d : decode cc pc = .ok (.invokespecial idx, 3)) (q : Nat) (hq : pc + 3 = q) (cs1 sl1 : Nat) (ec : cs + rm.cells = cs1) (es : sl + rm.slots = sl1) (K : G Γ X M1 cs1 sl1 L (v.toList ++ st) q) : G Γ X M cs sl L stk pc := by
  obtain ⟨p, e, R, s, m, args, below, meth, c, Q⟩ := X
  obtain ⟨hx, hb, hml, hown, hts, hW, hlk, hret, rfl, hK, hSs, hG⟩ := C
  subst hst; subst hml; subst hq; subst ec; subst es
  intro H locs ls a1 a2 a3 a4 a5
  exact callN (va_runIN (Ts := []) (own := own) ⟨hx, hb, rfl, hown, fun _ h => nomatch h⟩ hM ⟨cw_N hW hts hG mw hr ln, mi.2, hts _ mi.1⟩ ⟨WP.blind, fun U hU hU2 => ⟨rfl, a1, State.WarmedH.trans hW hU2, by rw [hU]; exact S_nil a4, by rw [hU]; exact a2, a3⟩⟩ rfl hn a5.1 rfl (lv_room hw) d ⟨hr.2.2.1, hr.2.2.2⟩) a4 (fun H1 locs1 b1 b2 b3 b4 => K H1 locs1 ls b1 b2 b3 b4 a5)
theorem x_cJv (C : CX Γ X cc nL own ret R0) (hM : Ct Γ y bytes maxL none rm (.ref (wad Γ o) :: As) M none M1) (mw : MW y bytes maxL none n) (ln : Gd (.methodLinkNest own idx y host)) (mi : Gd (.instanceMethod y) ∧ y.name = "<init>") (hr : RO rm R0 maxL cs sl) (hn : As.length = n) (hst : stk = As.reverse ++ .ref (wad Γ o) :: st) (hw : (st.map fun v => v.category).sum ≤ 8) (d : decode cc pc = .ok (.invokespecial idx, 3)) (q : Nat) (hq : pc + 3 = q) (cs1 sl1 : Nat) (ec : cs + rm.cells = cs1) (es : sl + rm.slots = sl1) (K : G Γ X M1 cs1 sl1 L st q) : G Γ X M cs sl L stk pc := x_cJ C hM mw ln mi hr hn hst hw d q hq cs1 sl1 ec es K
theorem GX.out {α : Type} {tv : α → Option Value} {rM : Except Nat α × Mem} {n9 : Nat} (C : CX Γ X cc nL own ret R0) (E : EndT Γ X tv rM mcX msX) (hf : pr n9 M = some rM) (hc : cs ≤ mcX) (hs : sl ≤ msX) : GX Γ X M cs sl L st pc n9 := by
  obtain ⟨p, e, R, s, m, args, below, meth, c, Q⟩ := X
  obtain ⟨hx, hb, hml, hown, hts, hW, hlk, hret, rfl, hK, hSs, hG⟩ := C
  cases hf
  intro H locs ls q ce a1 a2 a3 a4 a5 b1 b2 b3
  rw [show Q = _ from E.1]
  exact vx_out (fun x h => absurd (E.2 x h) id) hlk b1 b2 b3 (fun t ht hv => ⟨_, rfl, rfl, a1, by rw [ht]; exact S_nil a4, by rw [ht]; exact a2, a3⟩) a4.2.2 hc hs
theorem t_cVi {α9 : Type} {tvX : α9 → Option Value} {fx : Option (Except Nat Int32 × Mem)} {k : Int32 → Mem → Option (Except Nat α9 × Mem)} {rM : Except Nat α9 × Mem} (C : CX Γ X cc nL own ret R0) (E : EndT Γ X tvX rM mcX msX) (hf : clT fx k pr = some rM) (hM : ∀ r, fx = some r → CtT Γ y bytes maxL rt rm (.ref (wad Γ o) :: As) M (fun v => some (.int v)) r) (mw : MW y bytes maxL rt n) (ln : Gd (.methodLink own idx y)) (mi : Gd (.instanceMethod y) ∧ Gd (.selects y.cls y y)) (ho : RC Γ o y.cls) (hr : RO rm R0 maxL cs sl) (hn : As.length = n) (hst : stk = As.reverse ++ .ref (wad Γ o) :: st) (hw : (st.map fun v => v.category).sum ≤ 8) (d : decode cc pc = .ok (.invokevirtual idx, 3)) (q : Nat) (hq : pc + 3 = q) (cs1 sl1 : Nat) (ec : cs + rm.cells = cs1) (es : sl + rm.slots = sl1) (hc : cs1 ≤ mcX) (hs : sl1 ≤ msX) (K : ∀ v M1, k v M1 = some rM → G Γ X M1 cs1 sl1 L (.int v :: st) q) : G Γ X M cs sl L stk pc :=
  y_cV C hf hM mw ln mi ho hr hn hst hw d q hq cs1 sl1 ec es K (fun _ _ h => GX.out C E h hc hs)
theorem h_cVi {β : Type} {fx : Option (Except Nat Int32 × Mem)} {k : Int32 → Mem → Option β} {ke : Nat → Mem → Option β} {rM : β} (C : CX Γ X cc nL own ret R0) (hf : clT fx k ke = some rM) (hM : ∀ r, fx = some r → CtT Γ y bytes maxL rt rm (.ref (wad Γ o) :: As) M (fun v => some (.int v)) r) (mw : MW y bytes maxL rt n) (ln : Gd (.methodLink own idx y)) (mi : Gd (.instanceMethod y) ∧ Gd (.selects y.cls y y)) (ho : RC Γ o y.cls) (hr : RO rm R0 maxL cs sl) (hn : As.length = n) (hst : stk = As.reverse ++ .ref (wad Γ o) :: st) (hw : (st.map fun v => v.category).sum ≤ 8) (d : decode cc pc = .ok (.invokevirtual idx, 3)) (q : Nat) (hq : pc + 3 = q) (cs1 sl1 : Nat) (ec : cs + rm.cells = cs1) (es : sl + rm.slots = sl1) (K : ∀ v M1, k v M1 = some rM → G Γ X M1 cs1 sl1 L (.int v :: st) q) (KE : ∀ n M1, ke n M1 = some rM → GX Γ X M1 cs1 sl1 L st pc n) : G Γ X M cs sl L stk pc :=
  y_cV C hf hM mw ln mi ho hr hn hst hw d q hq cs1 sl1 ec es K KE
theorem t_cVl {α9 : Type} {tvX : α9 → Option Value} {fx : Option (Except Nat Int64 × Mem)} {k : Int64 → Mem → Option (Except Nat α9 × Mem)} {rM : Except Nat α9 × Mem} (C : CX Γ X cc nL own ret R0) (E : EndT Γ X tvX rM mcX msX) (hf : clT fx k pr = some rM) (hM : ∀ r, fx = some r → CtT Γ y bytes maxL rt rm (.ref (wad Γ o) :: As) M (fun v => some (.long v)) r) (mw : MW y bytes maxL rt n) (ln : Gd (.methodLink own idx y)) (mi : Gd (.instanceMethod y) ∧ Gd (.selects y.cls y y)) (ho : RC Γ o y.cls) (hr : RO rm R0 maxL cs sl) (hn : As.length = n) (hst : stk = As.reverse ++ .ref (wad Γ o) :: st) (hw : (st.map fun v => v.category).sum ≤ 8) (d : decode cc pc = .ok (.invokevirtual idx, 3)) (q : Nat) (hq : pc + 3 = q) (cs1 sl1 : Nat) (ec : cs + rm.cells = cs1) (es : sl + rm.slots = sl1) (hc : cs1 ≤ mcX) (hs : sl1 ≤ msX) (K : ∀ v M1, k v M1 = some rM → G Γ X M1 cs1 sl1 L (.long v :: st) q) : G Γ X M cs sl L stk pc :=
  y_cV C hf hM mw ln mi ho hr hn hst hw d q hq cs1 sl1 ec es K (fun _ _ h => GX.out C E h hc hs)
theorem h_cVl {β : Type} {fx : Option (Except Nat Int64 × Mem)} {k : Int64 → Mem → Option β} {ke : Nat → Mem → Option β} {rM : β} (C : CX Γ X cc nL own ret R0) (hf : clT fx k ke = some rM) (hM : ∀ r, fx = some r → CtT Γ y bytes maxL rt rm (.ref (wad Γ o) :: As) M (fun v => some (.long v)) r) (mw : MW y bytes maxL rt n) (ln : Gd (.methodLink own idx y)) (mi : Gd (.instanceMethod y) ∧ Gd (.selects y.cls y y)) (ho : RC Γ o y.cls) (hr : RO rm R0 maxL cs sl) (hn : As.length = n) (hst : stk = As.reverse ++ .ref (wad Γ o) :: st) (hw : (st.map fun v => v.category).sum ≤ 8) (d : decode cc pc = .ok (.invokevirtual idx, 3)) (q : Nat) (hq : pc + 3 = q) (cs1 sl1 : Nat) (ec : cs + rm.cells = cs1) (es : sl + rm.slots = sl1) (K : ∀ v M1, k v M1 = some rM → G Γ X M1 cs1 sl1 L (.long v :: st) q) (KE : ∀ n M1, ke n M1 = some rM → GX Γ X M1 cs1 sl1 L st pc n) : G Γ X M cs sl L stk pc :=
  y_cV C hf hM mw ln mi ho hr hn hst hw d q hq cs1 sl1 ec es K KE
theorem t_cVf {α9 : Type} {tvX : α9 → Option Value} {fx : Option (Except Nat UInt32 × Mem)} {k : UInt32 → Mem → Option (Except Nat α9 × Mem)} {rM : Except Nat α9 × Mem} (C : CX Γ X cc nL own ret R0) (E : EndT Γ X tvX rM mcX msX) (hf : clT fx k pr = some rM) (hM : ∀ r, fx = some r → CtT Γ y bytes maxL rt rm (.ref (wad Γ o) :: As) M (fun v => some (.float v)) r) (mw : MW y bytes maxL rt n) (ln : Gd (.methodLink own idx y)) (mi : Gd (.instanceMethod y) ∧ Gd (.selects y.cls y y)) (ho : RC Γ o y.cls) (hr : RO rm R0 maxL cs sl) (hn : As.length = n) (hst : stk = As.reverse ++ .ref (wad Γ o) :: st) (hw : (st.map fun v => v.category).sum ≤ 8) (d : decode cc pc = .ok (.invokevirtual idx, 3)) (q : Nat) (hq : pc + 3 = q) (cs1 sl1 : Nat) (ec : cs + rm.cells = cs1) (es : sl + rm.slots = sl1) (hc : cs1 ≤ mcX) (hs : sl1 ≤ msX) (K : ∀ v M1, k v M1 = some rM → G Γ X M1 cs1 sl1 L (.float v :: st) q) : G Γ X M cs sl L stk pc :=
  y_cV C hf hM mw ln mi ho hr hn hst hw d q hq cs1 sl1 ec es K (fun _ _ h => GX.out C E h hc hs)
theorem h_cVf {β : Type} {fx : Option (Except Nat UInt32 × Mem)} {k : UInt32 → Mem → Option β} {ke : Nat → Mem → Option β} {rM : β} (C : CX Γ X cc nL own ret R0) (hf : clT fx k ke = some rM) (hM : ∀ r, fx = some r → CtT Γ y bytes maxL rt rm (.ref (wad Γ o) :: As) M (fun v => some (.float v)) r) (mw : MW y bytes maxL rt n) (ln : Gd (.methodLink own idx y)) (mi : Gd (.instanceMethod y) ∧ Gd (.selects y.cls y y)) (ho : RC Γ o y.cls) (hr : RO rm R0 maxL cs sl) (hn : As.length = n) (hst : stk = As.reverse ++ .ref (wad Γ o) :: st) (hw : (st.map fun v => v.category).sum ≤ 8) (d : decode cc pc = .ok (.invokevirtual idx, 3)) (q : Nat) (hq : pc + 3 = q) (cs1 sl1 : Nat) (ec : cs + rm.cells = cs1) (es : sl + rm.slots = sl1) (K : ∀ v M1, k v M1 = some rM → G Γ X M1 cs1 sl1 L (.float v :: st) q) (KE : ∀ n M1, ke n M1 = some rM → GX Γ X M1 cs1 sl1 L st pc n) : G Γ X M cs sl L stk pc :=
  y_cV C hf hM mw ln mi ho hr hn hst hw d q hq cs1 sl1 ec es K KE
theorem t_cVv {α9 : Type} {tvX : α9 → Option Value} {fx : Option (Except Nat Unit × Mem)} {k : Unit → Mem → Option (Except Nat α9 × Mem)} {rM : Except Nat α9 × Mem} (C : CX Γ X cc nL own ret R0) (E : EndT Γ X tvX rM mcX msX) (hf : clT fx k pr = some rM) (hM : ∀ r, fx = some r → CtT Γ y bytes maxL rt rm (.ref (wad Γ o) :: As) M (fun _ => none) r) (mw : MW y bytes maxL rt n) (ln : Gd (.methodLink own idx y)) (mi : Gd (.instanceMethod y) ∧ Gd (.selects y.cls y y)) (ho : RC Γ o y.cls) (hr : RO rm R0 maxL cs sl) (hn : As.length = n) (hst : stk = As.reverse ++ .ref (wad Γ o) :: st) (hw : (st.map fun v => v.category).sum ≤ 8) (d : decode cc pc = .ok (.invokevirtual idx, 3)) (q : Nat) (hq : pc + 3 = q) (cs1 sl1 : Nat) (ec : cs + rm.cells = cs1) (es : sl + rm.slots = sl1) (hc : cs1 ≤ mcX) (hs : sl1 ≤ msX) (K : ∀ v M1, k v M1 = some rM → G Γ X M1 cs1 sl1 L st q) : G Γ X M cs sl L stk pc :=
  y_cV C hf hM mw ln mi ho hr hn hst hw d q hq cs1 sl1 ec es K (fun _ _ h => GX.out C E h hc hs)
theorem h_cVv {β : Type} {fx : Option (Except Nat Unit × Mem)} {k : Unit → Mem → Option β} {ke : Nat → Mem → Option β} {rM : β} (C : CX Γ X cc nL own ret R0) (hf : clT fx k ke = some rM) (hM : ∀ r, fx = some r → CtT Γ y bytes maxL rt rm (.ref (wad Γ o) :: As) M (fun _ => none) r) (mw : MW y bytes maxL rt n) (ln : Gd (.methodLink own idx y)) (mi : Gd (.instanceMethod y) ∧ Gd (.selects y.cls y y)) (ho : RC Γ o y.cls) (hr : RO rm R0 maxL cs sl) (hn : As.length = n) (hst : stk = As.reverse ++ .ref (wad Γ o) :: st) (hw : (st.map fun v => v.category).sum ≤ 8) (d : decode cc pc = .ok (.invokevirtual idx, 3)) (q : Nat) (hq : pc + 3 = q) (cs1 sl1 : Nat) (ec : cs + rm.cells = cs1) (es : sl + rm.slots = sl1) (K : ∀ v M1, k v M1 = some rM → G Γ X M1 cs1 sl1 L st q) (KE : ∀ n M1, ke n M1 = some rM → GX Γ X M1 cs1 sl1 L st pc n) : G Γ X M cs sl L stk pc :=
  y_cV C hf hM mw ln mi ho hr hn hst hw d q hq cs1 sl1 ec es K KE
theorem t_cSi {α9 : Type} {tvX : α9 → Option Value} {fx : Option (Except Nat Int32 × Mem)} {k : Int32 → Mem → Option (Except Nat α9 × Mem)} {rM : Except Nat α9 × Mem} (C : CX Γ X cc nL own ret R0) (E : EndT Γ X tvX rM mcX msX) (hf : clT fx k pr = some rM) (hM : ∀ r, fx = some r → CtT Γ y bytes maxL rt rm As M (fun v => some (.int v)) r) (mw : MW y bytes maxL rt n) (ln : Gd (.methodLink own idx y)) (mi : Gd (.static y)) (hr : RO rm R0 maxL cs sl) (hn : As.length = n) (hst : stk = As.reverse ++ st) (hw : (st.map fun v => v.category).sum ≤ 8) (d : decode cc pc = .ok (.invokestatic idx, 3)) (q : Nat) (hq : pc + 3 = q) (cs1 sl1 : Nat) (ec : cs + rm.cells = cs1) (es : sl + rm.slots = sl1) (hc : cs1 ≤ mcX) (hs : sl1 ≤ msX) (K : ∀ v M1, k v M1 = some rM → G Γ X M1 cs1 sl1 L (.int v :: st) q) : G Γ X M cs sl L stk pc :=
  y_cS C hf hM mw ln mi hr hn hst hw d q hq cs1 sl1 ec es K (fun _ _ h => GX.out C E h hc hs)
theorem h_cSi {β : Type} {fx : Option (Except Nat Int32 × Mem)} {k : Int32 → Mem → Option β} {ke : Nat → Mem → Option β} {rM : β} (C : CX Γ X cc nL own ret R0) (hf : clT fx k ke = some rM) (hM : ∀ r, fx = some r → CtT Γ y bytes maxL rt rm As M (fun v => some (.int v)) r) (mw : MW y bytes maxL rt n) (ln : Gd (.methodLink own idx y)) (mi : Gd (.static y)) (hr : RO rm R0 maxL cs sl) (hn : As.length = n) (hst : stk = As.reverse ++ st) (hw : (st.map fun v => v.category).sum ≤ 8) (d : decode cc pc = .ok (.invokestatic idx, 3)) (q : Nat) (hq : pc + 3 = q) (cs1 sl1 : Nat) (ec : cs + rm.cells = cs1) (es : sl + rm.slots = sl1) (K : ∀ v M1, k v M1 = some rM → G Γ X M1 cs1 sl1 L (.int v :: st) q) (KE : ∀ n M1, ke n M1 = some rM → GX Γ X M1 cs1 sl1 L st pc n) : G Γ X M cs sl L stk pc :=
  y_cS C hf hM mw ln mi hr hn hst hw d q hq cs1 sl1 ec es K KE
theorem t_cSl {α9 : Type} {tvX : α9 → Option Value} {fx : Option (Except Nat Int64 × Mem)} {k : Int64 → Mem → Option (Except Nat α9 × Mem)} {rM : Except Nat α9 × Mem} (C : CX Γ X cc nL own ret R0) (E : EndT Γ X tvX rM mcX msX) (hf : clT fx k pr = some rM) (hM : ∀ r, fx = some r → CtT Γ y bytes maxL rt rm As M (fun v => some (.long v)) r) (mw : MW y bytes maxL rt n) (ln : Gd (.methodLink own idx y)) (mi : Gd (.static y)) (hr : RO rm R0 maxL cs sl) (hn : As.length = n) (hst : stk = As.reverse ++ st) (hw : (st.map fun v => v.category).sum ≤ 8) (d : decode cc pc = .ok (.invokestatic idx, 3)) (q : Nat) (hq : pc + 3 = q) (cs1 sl1 : Nat) (ec : cs + rm.cells = cs1) (es : sl + rm.slots = sl1) (hc : cs1 ≤ mcX) (hs : sl1 ≤ msX) (K : ∀ v M1, k v M1 = some rM → G Γ X M1 cs1 sl1 L (.long v :: st) q) : G Γ X M cs sl L stk pc :=
  y_cS C hf hM mw ln mi hr hn hst hw d q hq cs1 sl1 ec es K (fun _ _ h => GX.out C E h hc hs)
theorem h_cSl {β : Type} {fx : Option (Except Nat Int64 × Mem)} {k : Int64 → Mem → Option β} {ke : Nat → Mem → Option β} {rM : β} (C : CX Γ X cc nL own ret R0) (hf : clT fx k ke = some rM) (hM : ∀ r, fx = some r → CtT Γ y bytes maxL rt rm As M (fun v => some (.long v)) r) (mw : MW y bytes maxL rt n) (ln : Gd (.methodLink own idx y)) (mi : Gd (.static y)) (hr : RO rm R0 maxL cs sl) (hn : As.length = n) (hst : stk = As.reverse ++ st) (hw : (st.map fun v => v.category).sum ≤ 8) (d : decode cc pc = .ok (.invokestatic idx, 3)) (q : Nat) (hq : pc + 3 = q) (cs1 sl1 : Nat) (ec : cs + rm.cells = cs1) (es : sl + rm.slots = sl1) (K : ∀ v M1, k v M1 = some rM → G Γ X M1 cs1 sl1 L (.long v :: st) q) (KE : ∀ n M1, ke n M1 = some rM → GX Γ X M1 cs1 sl1 L st pc n) : G Γ X M cs sl L stk pc :=
  y_cS C hf hM mw ln mi hr hn hst hw d q hq cs1 sl1 ec es K KE
theorem t_cSf {α9 : Type} {tvX : α9 → Option Value} {fx : Option (Except Nat UInt32 × Mem)} {k : UInt32 → Mem → Option (Except Nat α9 × Mem)} {rM : Except Nat α9 × Mem} (C : CX Γ X cc nL own ret R0) (E : EndT Γ X tvX rM mcX msX) (hf : clT fx k pr = some rM) (hM : ∀ r, fx = some r → CtT Γ y bytes maxL rt rm As M (fun v => some (.float v)) r) (mw : MW y bytes maxL rt n) (ln : Gd (.methodLink own idx y)) (mi : Gd (.static y)) (hr : RO rm R0 maxL cs sl) (hn : As.length = n) (hst : stk = As.reverse ++ st) (hw : (st.map fun v => v.category).sum ≤ 8) (d : decode cc pc = .ok (.invokestatic idx, 3)) (q : Nat) (hq : pc + 3 = q) (cs1 sl1 : Nat) (ec : cs + rm.cells = cs1) (es : sl + rm.slots = sl1) (hc : cs1 ≤ mcX) (hs : sl1 ≤ msX) (K : ∀ v M1, k v M1 = some rM → G Γ X M1 cs1 sl1 L (.float v :: st) q) : G Γ X M cs sl L stk pc :=
  y_cS C hf hM mw ln mi hr hn hst hw d q hq cs1 sl1 ec es K (fun _ _ h => GX.out C E h hc hs)
theorem h_cSf {β : Type} {fx : Option (Except Nat UInt32 × Mem)} {k : UInt32 → Mem → Option β} {ke : Nat → Mem → Option β} {rM : β} (C : CX Γ X cc nL own ret R0) (hf : clT fx k ke = some rM) (hM : ∀ r, fx = some r → CtT Γ y bytes maxL rt rm As M (fun v => some (.float v)) r) (mw : MW y bytes maxL rt n) (ln : Gd (.methodLink own idx y)) (mi : Gd (.static y)) (hr : RO rm R0 maxL cs sl) (hn : As.length = n) (hst : stk = As.reverse ++ st) (hw : (st.map fun v => v.category).sum ≤ 8) (d : decode cc pc = .ok (.invokestatic idx, 3)) (q : Nat) (hq : pc + 3 = q) (cs1 sl1 : Nat) (ec : cs + rm.cells = cs1) (es : sl + rm.slots = sl1) (K : ∀ v M1, k v M1 = some rM → G Γ X M1 cs1 sl1 L (.float v :: st) q) (KE : ∀ n M1, ke n M1 = some rM → GX Γ X M1 cs1 sl1 L st pc n) : G Γ X M cs sl L stk pc :=
  y_cS C hf hM mw ln mi hr hn hst hw d q hq cs1 sl1 ec es K KE
theorem t_cSv {α9 : Type} {tvX : α9 → Option Value} {fx : Option (Except Nat Unit × Mem)} {k : Unit → Mem → Option (Except Nat α9 × Mem)} {rM : Except Nat α9 × Mem} (C : CX Γ X cc nL own ret R0) (E : EndT Γ X tvX rM mcX msX) (hf : clT fx k pr = some rM) (hM : ∀ r, fx = some r → CtT Γ y bytes maxL rt rm As M (fun _ => none) r) (mw : MW y bytes maxL rt n) (ln : Gd (.methodLink own idx y)) (mi : Gd (.static y)) (hr : RO rm R0 maxL cs sl) (hn : As.length = n) (hst : stk = As.reverse ++ st) (hw : (st.map fun v => v.category).sum ≤ 8) (d : decode cc pc = .ok (.invokestatic idx, 3)) (q : Nat) (hq : pc + 3 = q) (cs1 sl1 : Nat) (ec : cs + rm.cells = cs1) (es : sl + rm.slots = sl1) (hc : cs1 ≤ mcX) (hs : sl1 ≤ msX) (K : ∀ v M1, k v M1 = some rM → G Γ X M1 cs1 sl1 L st q) : G Γ X M cs sl L stk pc :=
  y_cS C hf hM mw ln mi hr hn hst hw d q hq cs1 sl1 ec es K (fun _ _ h => GX.out C E h hc hs)
theorem h_cSv {β : Type} {fx : Option (Except Nat Unit × Mem)} {k : Unit → Mem → Option β} {ke : Nat → Mem → Option β} {rM : β} (C : CX Γ X cc nL own ret R0) (hf : clT fx k ke = some rM) (hM : ∀ r, fx = some r → CtT Γ y bytes maxL rt rm As M (fun _ => none) r) (mw : MW y bytes maxL rt n) (ln : Gd (.methodLink own idx y)) (mi : Gd (.static y)) (hr : RO rm R0 maxL cs sl) (hn : As.length = n) (hst : stk = As.reverse ++ st) (hw : (st.map fun v => v.category).sum ≤ 8) (d : decode cc pc = .ok (.invokestatic idx, 3)) (q : Nat) (hq : pc + 3 = q) (cs1 sl1 : Nat) (ec : cs + rm.cells = cs1) (es : sl + rm.slots = sl1) (K : ∀ v M1, k v M1 = some rM → G Γ X M1 cs1 sl1 L st q) (KE : ∀ n M1, ke n M1 = some rM → GX Γ X M1 cs1 sl1 L st pc n) : G Γ X M cs sl L stk pc :=
  y_cS C hf hM mw ln mi hr hn hst hw d q hq cs1 sl1 ec es K KE
theorem cl_inv {α β : Type} {x : Option (α × Mem)} {k : α → Mem → Option β} {r : β} (h : cl x k = some r) : ∃ a m, x = some (a, m) ∧ k a m = some r := by
  unfold cl at h
  cases x with
  | none => exact nomatch h
  | some q => exact ⟨q.1, q.2, rfl, h⟩
end Calls2
end
section
theorem rc0 : vwCl[0]? = some (RX0, TX0, 8) := rfl
theorem rc1 : vwCl[1]? = some (RX1, TX1, 7) := rfl
theorem rc2 : vwCl[2]? = some (RX2, TX2, 7) := rfl
theorem rc3 : vwCl[3]? = some (RX3, TX3, 4) := rfl
theorem rc4 : vwCl[4]? = some (RX4, TX4, 7) := rfl
theorem rc5 : vwCl[5]? = some (RX5, TX5, 11) := rfl
theorem rc6 : vwCl[6]? = some (RX6, TX6, 2) := rfl
theorem rc7 : vwCl[7]? = some (RX7, TX7, 9) := rfl
theorem rc8 : vwCl[8]? = some (RX8, TX8, 4) := rfl
theorem rc9 : vwCl[9]? = some (RX9, TX9, 3) := rfl
theorem rc10 : vwCl[10]? = some (RX10, TX10, 4) := rfl
theorem rc11 : vwCl[11]? = some (RX11, TX11, 12) := rfl
theorem rc12 : vwCl[12]? = some (RX12, TX12, 17) := rfl
theorem rc13 : vwCl[13]? = some (RX13, TX13, 2) := rfl
theorem rc14 : vwCl[14]? = some (RJ0, TJ0, 4) := rfl
theorem rc15 : vwCl[15]? = some (RJ4, TJ4, 4) := rfl
theorem uw0 : ∀ w ∈ u_ws RX0 TX0 8, Gd w := by
  have h : ∀ w ∈ u_ws RX0 TX0 8, w ∈ lw_tbl ∧ okW w = true := by decide +kernel
  exact h
theorem uw1 : ∀ w ∈ u_ws RX1 TX1 7, Gd w := by
  have h : ∀ w ∈ u_ws RX1 TX1 7, w ∈ lw_tbl ∧ okW w = true := by decide +kernel
  exact h
theorem uw2 : ∀ w ∈ u_ws RX2 TX2 7, Gd w := by
  have h : ∀ w ∈ u_ws RX2 TX2 7, w ∈ lw_tbl ∧ okW w = true := by decide +kernel
  exact h
theorem uw3 : ∀ w ∈ u_ws RX3 TX3 4, Gd w := by
  have h : ∀ w ∈ u_ws RX3 TX3 4, w ∈ lw_tbl ∧ okW w = true := by decide +kernel
  exact h
theorem uw4 : ∀ w ∈ u_ws RX4 TX4 7, Gd w := by
  have h : ∀ w ∈ u_ws RX4 TX4 7, w ∈ lw_tbl ∧ okW w = true := by decide +kernel
  exact h
theorem uw5 : ∀ w ∈ u_ws RX5 TX5 11, Gd w := by
  have h : ∀ w ∈ u_ws RX5 TX5 11, w ∈ lw_tbl ∧ okW w = true := by decide +kernel
  exact h
theorem uw6 : ∀ w ∈ u_ws RX6 TX6 2, Gd w := by
  have h : ∀ w ∈ u_ws RX6 TX6 2, w ∈ lw_tbl ∧ okW w = true := by decide +kernel
  exact h
theorem uw7 : ∀ w ∈ u_ws RX7 TX7 9, Gd w := by
  have h : ∀ w ∈ u_ws RX7 TX7 9, w ∈ lw_tbl ∧ okW w = true := by decide +kernel
  exact h
theorem uw8 : ∀ w ∈ u_ws RX8 TX8 4, Gd w := by
  have h : ∀ w ∈ u_ws RX8 TX8 4, w ∈ lw_tbl ∧ okW w = true := by decide +kernel
  exact h
theorem uw9 : ∀ w ∈ u_ws RX9 TX9 3, Gd w := by
  have h : ∀ w ∈ u_ws RX9 TX9 3, w ∈ lw_tbl ∧ okW w = true := by decide +kernel
  exact h
theorem uw10 : ∀ w ∈ u_ws RX10 TX10 4, Gd w := by
  have h : ∀ w ∈ u_ws RX10 TX10 4, w ∈ lw_tbl ∧ okW w = true := by decide +kernel
  exact h
theorem uw11 : ∀ w ∈ u_ws RX11 TX11 12, Gd w := by
  have h : ∀ w ∈ u_ws RX11 TX11 12, w ∈ lw_tbl ∧ okW w = true := by decide +kernel
  exact h
theorem uw12 : ∀ w ∈ u_ws RX12 TX12 17, Gd w := by
  have h : ∀ w ∈ u_ws RX12 TX12 17, w ∈ lw_tbl ∧ okW w = true := by decide +kernel
  exact h
theorem uw13 : ∀ w ∈ u_ws RX13 TX13 2, Gd w := by
  have h : ∀ w ∈ u_ws RX13 TX13 2, w ∈ lw_tbl ∧ okW w = true := by decide +kernel
  exact h
theorem uw14 : ∀ w ∈ u_ws RJ0 TJ0 4, Gd w := by
  have h : ∀ w ∈ u_ws RJ0 TJ0 4, w ∈ lw_tbl ∧ okW w = true := by decide +kernel
  exact h
theorem uw15 : ∀ w ∈ u_ws RJ4 TJ4 4, Gd w := by
  have h : ∀ w ∈ u_ws RJ4 TJ4 4, w ∈ lw_tbl ∧ okW w = true := by decide +kernel
  exact h
theorem lk_RX0_9 : FLk RX0 9 0 2 2 := ⟨_, _, _, rc0, by decide, by decide +kernel, uw0, gd 136 (by decide +kernel) rfl⟩
theorem lk_RX0_15 : FLk RX0 15 0 3 2 := ⟨_, _, _, rc0, by decide, by decide +kernel, uw0, gd 143 (by decide +kernel) rfl⟩
theorem lk_RX0_18 : FLk RX0 18 0 4 2 := ⟨_, _, _, rc0, by decide, by decide +kernel, uw0, gd 149 (by decide +kernel) rfl⟩
theorem lk_RX0_21 : FLk RX0 21 0 5 2 := ⟨_, _, _, rc0, by decide, by decide +kernel, uw0, gd 151 (by decide +kernel) rfl⟩
theorem lk_RX0_24 : FLk RX0 24 0 6 2 := ⟨_, _, _, rc0, by decide, by decide +kernel, uw0, gd 152 (by decide +kernel) rfl⟩
theorem lk_RX0_27 : FLk RX0 27 0 7 2 := ⟨_, _, _, rc0, by decide, by decide +kernel, uw0, gd 154 (by decide +kernel) rfl⟩
theorem lk_RX0_30 : FLk RX0 30 0 0 0 := ⟨_, _, _, rc0, by decide, by decide +kernel, uw0, gd 126 (by decide +kernel) rfl⟩
theorem lk_RX0_34 : FLk RX0 34 0 1 0 := ⟨_, _, _, rc0, by decide, by decide +kernel, uw0, gd 132 (by decide +kernel) rfl⟩
theorem lk_RX1_9 : FLk RX1 9 1 3 2 := ⟨_, _, _, rc1, by decide, by decide +kernel, uw1, gd 237 (by decide +kernel) rfl⟩
theorem lk_RX1_15 : FLk RX1 15 1 4 2 := ⟨_, _, _, rc1, by decide, by decide +kernel, uw1, gd 238 (by decide +kernel) rfl⟩
theorem lk_RX1_18 : FLk RX1 18 1 5 2 := ⟨_, _, _, rc1, by decide, by decide +kernel, uw1, gd 239 (by decide +kernel) rfl⟩
theorem lk_RX1_21 : FLk RX1 21 1 6 2 := ⟨_, _, _, rc1, by decide, by decide +kernel, uw1, gd 240 (by decide +kernel) rfl⟩
theorem lk_RX1_24 : FLk RX1 24 1 0 2 := ⟨_, _, _, rc1, by decide, by decide +kernel, uw1, gd 234 (by decide +kernel) rfl⟩
theorem lk_RX1_28 : FLk RX1 28 1 1 0 := ⟨_, _, _, rc1, by decide, by decide +kernel, uw1, gd 235 (by decide +kernel) rfl⟩
theorem lk_RX1_32 : FLk RX1 32 1 2 0 := ⟨_, _, _, rc1, by decide, by decide +kernel, uw1, gd 236 (by decide +kernel) rfl⟩
theorem lk_RX1_49 : FLk RX1 49 0 0 0 := ⟨_, _, _, rc0, by decide, by decide +kernel, uw0, gd 128 (by decide +kernel) rfl⟩
theorem lk_RX1_54 : FLk RX1 54 0 2 2 := ⟨_, _, _, rc0, by decide, by decide +kernel, uw0, gd 137 (by decide +kernel) rfl⟩
theorem lk_RX1_85 : FLk RX1 85 0 3 2 := ⟨_, _, _, rc0, by decide, by decide +kernel, uw0, gd 148 (by decide +kernel) rfl⟩
theorem lk_RX10_9 : FLk RX10 9 10 0 2 := ⟨_, _, _, rc10, by decide, by decide +kernel, uw10, gd 398 (by decide +kernel) rfl⟩
theorem lk_RX10_23 : FLk RX10 23 10 3 0 := ⟨_, _, _, rc10, by decide, by decide +kernel, uw10, gd 403 (by decide +kernel) rfl⟩
theorem lk_RX10_27 : FLk RX10 27 10 2 0 := ⟨_, _, _, rc10, by decide, by decide +kernel, uw10, gd 401 (by decide +kernel) rfl⟩
theorem lk_RX10_37 : FLk RX10 37 7 3 0 := ⟨_, _, _, rc7, by decide, by decide +kernel, uw7, gd 191 (by decide +kernel) rfl⟩
theorem lk_RX10_42 : FLk RX10 42 7 4 0 := ⟨_, _, _, rc7, by decide, by decide +kernel, uw7, gd 196 (by decide +kernel) rfl⟩
theorem lk_RX10_45 : FLk RX10 45 7 0 2 := ⟨_, _, _, rc7, by decide, by decide +kernel, uw7, gd 181 (by decide +kernel) rfl⟩
theorem lk_RX10_53 : FLk RX10 53 0 3 2 := ⟨_, _, _, rc0, by decide, by decide +kernel, uw0, gd 144 (by decide +kernel) rfl⟩
theorem lk_RX10_58 : FLk RX10 58 10 1 0 := ⟨_, _, _, rc10, by decide, by decide +kernel, uw10, gd 399 (by decide +kernel) rfl⟩
theorem lk_RX10_61 : FLk RX10 61 0 2 2 := ⟨_, _, _, rc0, by decide, by decide +kernel, uw0, gd 139 (by decide +kernel) rfl⟩
theorem lk_RX10_64 : FLk RX10 64 0 7 2 := ⟨_, _, _, rc0, by decide, by decide +kernel, uw0, gd 155 (by decide +kernel) rfl⟩
theorem lk_RX10_67 : FLk RX10 67 0 6 2 := ⟨_, _, _, rc0, by decide, by decide +kernel, uw0, gd 153 (by decide +kernel) rfl⟩
theorem lk_RX11_25 : FLk RX11 25 11 0 2 := ⟨_, _, _, rc11, by decide, by decide +kernel, uw11, gd 428 (by decide +kernel) rfl⟩
theorem lk_RX11_34 : FLk RX11 34 11 1 2 := ⟨_, _, _, rc11, by decide, by decide +kernel, uw11, gd 429 (by decide +kernel) rfl⟩
theorem lk_RX11_38 : FLk RX11 38 11 2 2 := ⟨_, _, _, rc11, by decide, by decide +kernel, uw11, gd 430 (by decide +kernel) rfl⟩
theorem lk_RX11_42 : FLk RX11 42 11 3 2 := ⟨_, _, _, rc11, by decide, by decide +kernel, uw11, gd 431 (by decide +kernel) rfl⟩
theorem lk_RX11_49 : FLk RX11 49 11 4 2 := ⟨_, _, _, rc11, by decide, by decide +kernel, uw11, gd 432 (by decide +kernel) rfl⟩
theorem lk_RX11_53 : FLk RX11 53 11 5 2 := ⟨_, _, _, rc11, by decide, by decide +kernel, uw11, gd 433 (by decide +kernel) rfl⟩
theorem lk_RX11_69 : FLk RX11 69 11 7 2 := ⟨_, _, _, rc11, by decide, by decide +kernel, uw11, gd 435 (by decide +kernel) rfl⟩
theorem lk_RX11_78 : FLk RX11 78 11 8 2 := ⟨_, _, _, rc11, by decide, by decide +kernel, uw11, gd 436 (by decide +kernel) rfl⟩
theorem lk_RX11_85 : FLk RX11 85 11 9 2 := ⟨_, _, _, rc11, by decide, by decide +kernel, uw11, gd 437 (by decide +kernel) rfl⟩
theorem lk_RX11_92 : FLk RX11 92 11 10 2 := ⟨_, _, _, rc11, by decide, by decide +kernel, uw11, gd 438 (by decide +kernel) rfl⟩
theorem lk_RX11_96 : FLk RX11 96 11 11 2 := ⟨_, _, _, rc11, by decide, by decide +kernel, uw11, gd 439 (by decide +kernel) rfl⟩
theorem lk_RX11_108 : FLk RX11 108 2 1 0 := ⟨_, _, _, rc2, by decide, by decide +kernel, uw2, gd 95 (by decide +kernel) rfl⟩
theorem lk_RX11_127 : FLk RX11 127 4 0 2 := ⟨_, _, _, rc4, by decide, by decide +kernel, uw4, gd 268 (by decide +kernel) rfl⟩
theorem lk_RX11_131 : FLk RX11 131 4 1 2 := ⟨_, _, _, rc4, by decide, by decide +kernel, uw4, gd 270 (by decide +kernel) rfl⟩
theorem lk_RX11_145 : FLk RX11 145 4 2 0 := ⟨_, _, _, rc4, by decide, by decide +kernel, uw4, gd 272 (by decide +kernel) rfl⟩
theorem lk_RX11_148 : FLk RX11 148 4 3 0 := ⟨_, _, _, rc4, by decide, by decide +kernel, uw4, gd 274 (by decide +kernel) rfl⟩
theorem lk_RX11_151 : FLk RX11 151 0 0 0 := ⟨_, _, _, rc0, by decide, by decide +kernel, uw0, gd 130 (by decide +kernel) rfl⟩
theorem lk_RX11_154 : FLk RX11 154 0 1 0 := ⟨_, _, _, rc0, by decide, by decide +kernel, uw0, gd 134 (by decide +kernel) rfl⟩
theorem lk_RX11_157 : FLk RX11 157 7 4 0 := ⟨_, _, _, rc7, by decide, by decide +kernel, uw7, gd 199 (by decide +kernel) rfl⟩
theorem lk_RX11_163 : FLk RX11 163 7 3 0 := ⟨_, _, _, rc7, by decide, by decide +kernel, uw7, gd 193 (by decide +kernel) rfl⟩
theorem lk_RX11_169 : FLk RX11 169 0 2 2 := ⟨_, _, _, rc0, by decide, by decide +kernel, uw0, gd 141 (by decide +kernel) rfl⟩
theorem lk_RX11_176 : FLk RX11 176 0 3 2 := ⟨_, _, _, rc0, by decide, by decide +kernel, uw0, gd 146 (by decide +kernel) rfl⟩
theorem lk_RX11_192 : FLk RX11 192 7 0 2 := ⟨_, _, _, rc7, by decide, by decide +kernel, uw7, gd 182 (by decide +kernel) rfl⟩
theorem lk_RX11_199 : FLk RX11 199 7 2 2 := ⟨_, _, _, rc7, by decide, by decide +kernel, uw7, gd 189 (by decide +kernel) rfl⟩
theorem lk_RX11_274 : FLk RX11 274 5 10 2 := ⟨_, _, _, rc5, by decide, by decide +kernel, uw5, gd 352 (by decide +kernel) rfl⟩
theorem lk_RX11_293 : FLk RX11 293 7 5 0 := ⟨_, _, _, rc7, by decide, by decide +kernel, uw7, gd 202 (by decide +kernel) rfl⟩
theorem lk_RX11_299 : FLk RX11 299 7 6 0 := ⟨_, _, _, rc7, by decide, by decide +kernel, uw7, gd 204 (by decide +kernel) rfl⟩
theorem lk_RX11_302 : FLk RX11 302 7 7 2 := ⟨_, _, _, rc7, by decide, by decide +kernel, uw7, gd 206 (by decide +kernel) rfl⟩
theorem lk_RX11_305 : FLk RX11 305 7 8 2 := ⟨_, _, _, rc7, by decide, by decide +kernel, uw7, gd 208 (by decide +kernel) rfl⟩
theorem lk_RX11_311 : FLk RX11 311 10 1 0 := ⟨_, _, _, rc10, by decide, by decide +kernel, uw10, gd 400 (by decide +kernel) rfl⟩
theorem lk_RX11_316 : FLk RX11 316 6 1 0 := ⟨_, _, _, rc6, by decide, by decide +kernel, uw6, gd 422 (by decide +kernel) rfl⟩
theorem lk_RX11_325 : FLk RX11 325 6 0 2 := ⟨_, _, _, rc6, by decide, by decide +kernel, uw6, gd 421 (by decide +kernel) rfl⟩
theorem lk_RX11_342 : FLk RX11 342 7 1 2 := ⟨_, _, _, rc7, by decide, by decide +kernel, uw7, gd 185 (by decide +kernel) rfl⟩
theorem lk_RX11_347 : FLk RX11 347 10 2 0 := ⟨_, _, _, rc10, by decide, by decide +kernel, uw10, gd 402 (by decide +kernel) rfl⟩
theorem lk_RX11_354 : FLk RX11 354 10 3 0 := ⟨_, _, _, rc10, by decide, by decide +kernel, uw10, gd 404 (by decide +kernel) rfl⟩
theorem lk_RX11_357 : FLk RX11 357 3 0 0 := ⟨_, _, _, rc3, by decide, by decide +kernel, uw3, gd 303 (by decide +kernel) rfl⟩
theorem lk_RX2_9 : FLk RX2 9 2 0 2 := ⟨_, _, _, rc2, by decide, by decide +kernel, uw2, gd 93 (by decide +kernel) rfl⟩
theorem lk_RX2_15 : FLk RX2 15 2 1 0 := ⟨_, _, _, rc2, by decide, by decide +kernel, uw2, gd 94 (by decide +kernel) rfl⟩
theorem lk_RX2_25 : FLk RX2 25 2 2 0 := ⟨_, _, _, rc2, by decide, by decide +kernel, uw2, gd 96 (by decide +kernel) rfl⟩
theorem lk_RX2_28 : FLk RX2 28 2 5 0 := ⟨_, _, _, rc2, by decide, by decide +kernel, uw2, gd 101 (by decide +kernel) rfl⟩
theorem lk_RX2_34 : FLk RX2 34 2 4 0 := ⟨_, _, _, rc2, by decide, by decide +kernel, uw2, gd 100 (by decide +kernel) rfl⟩
theorem lk_RX2_37 : FLk RX2 37 2 3 0 := ⟨_, _, _, rc2, by decide, by decide +kernel, uw2, gd 98 (by decide +kernel) rfl⟩
theorem lk_RX2_47 : FLk RX2 47 2 6 0 := ⟨_, _, _, rc2, by decide, by decide +kernel, uw2, gd 103 (by decide +kernel) rfl⟩
theorem lk_RX3_11 : FLk RX3 11 3 1 2 := ⟨_, _, _, rc3, by decide, by decide +kernel, uw3, gd 304 (by decide +kernel) rfl⟩
theorem lk_RX3_17 : FLk RX3 17 3 2 2 := ⟨_, _, _, rc3, by decide, by decide +kernel, uw3, gd 305 (by decide +kernel) rfl⟩
theorem lk_RX3_21 : FLk RX3 21 3 0 0 := ⟨_, _, _, rc3, by decide, by decide +kernel, uw3, gd 302 (by decide +kernel) rfl⟩
theorem lk_RX3_25 : FLk RX3 25 3 3 0 := ⟨_, _, _, rc3, by decide, by decide +kernel, uw3, gd 306 (by decide +kernel) rfl⟩
theorem lk_RX4_12 : FLk RX4 12 4 0 2 := ⟨_, _, _, rc4, by decide, by decide +kernel, uw4, gd 267 (by decide +kernel) rfl⟩
theorem lk_RX4_21 : FLk RX4 21 4 1 2 := ⟨_, _, _, rc4, by decide, by decide +kernel, uw4, gd 269 (by decide +kernel) rfl⟩
theorem lk_RX4_29 : FLk RX4 29 4 4 2 := ⟨_, _, _, rc4, by decide, by decide +kernel, uw4, gd 275 (by decide +kernel) rfl⟩
theorem lk_RX4_36 : FLk RX4 36 4 6 0 := ⟨_, _, _, rc4, by decide, by decide +kernel, uw4, gd 277 (by decide +kernel) rfl⟩
theorem lk_RX4_53 : FLk RX4 53 2 3 0 := ⟨_, _, _, rc2, by decide, by decide +kernel, uw2, gd 97 (by decide +kernel) rfl⟩
theorem lk_RX4_69 : FLk RX4 69 2 4 0 := ⟨_, _, _, rc2, by decide, by decide +kernel, uw2, gd 99 (by decide +kernel) rfl⟩
theorem lk_RX4_76 : FLk RX4 76 2 6 0 := ⟨_, _, _, rc2, by decide, by decide +kernel, uw2, gd 102 (by decide +kernel) rfl⟩
theorem lk_RX4_79 : FLk RX4 79 4 5 0 := ⟨_, _, _, rc4, by decide, by decide +kernel, uw4, gd 276 (by decide +kernel) rfl⟩
theorem lk_RX4_86 : FLk RX4 86 0 0 0 := ⟨_, _, _, rc0, by decide, by decide +kernel, uw0, gd 131 (by decide +kernel) rfl⟩
theorem lk_RX4_123 : FLk RX4 123 0 1 0 := ⟨_, _, _, rc0, by decide, by decide +kernel, uw0, gd 135 (by decide +kernel) rfl⟩
theorem lk_RX4_126 : FLk RX4 126 7 2 2 := ⟨_, _, _, rc7, by decide, by decide +kernel, uw7, gd 187 (by decide +kernel) rfl⟩
theorem lk_RX4_137 : FLk RX4 137 0 2 2 := ⟨_, _, _, rc0, by decide, by decide +kernel, uw0, gd 142 (by decide +kernel) rfl⟩
theorem lk_RX4_153 : FLk RX4 153 0 3 2 := ⟨_, _, _, rc0, by decide, by decide +kernel, uw0, gd 147 (by decide +kernel) rfl⟩
theorem lk_RX4_161 : FLk RX4 161 0 4 2 := ⟨_, _, _, rc0, by decide, by decide +kernel, uw0, gd 150 (by decide +kernel) rfl⟩
theorem lk_RX4_179 : FLk RX4 179 7 0 2 := ⟨_, _, _, rc7, by decide, by decide +kernel, uw7, gd 183 (by decide +kernel) rfl⟩
theorem lk_RX5_9 : FLk RX5 9 5 3 2 := ⟨_, _, _, rc5, by decide, by decide +kernel, uw5, gd 344 (by decide +kernel) rfl⟩
theorem lk_RX5_15 : FLk RX5 15 5 4 2 := ⟨_, _, _, rc5, by decide, by decide +kernel, uw5, gd 345 (by decide +kernel) rfl⟩
theorem lk_RX5_18 : FLk RX5 18 5 5 0 := ⟨_, _, _, rc5, by decide, by decide +kernel, uw5, gd 346 (by decide +kernel) rfl⟩
theorem lk_RX5_22 : FLk RX5 22 5 6 0 := ⟨_, _, _, rc5, by decide, by decide +kernel, uw5, gd 347 (by decide +kernel) rfl⟩
theorem lk_RX5_25 : FLk RX5 25 5 8 2 := ⟨_, _, _, rc5, by decide, by decide +kernel, uw5, gd 349 (by decide +kernel) rfl⟩
theorem lk_RX5_29 : FLk RX5 29 5 9 2 := ⟨_, _, _, rc5, by decide, by decide +kernel, uw5, gd 350 (by decide +kernel) rfl⟩
theorem lk_RX5_32 : FLk RX5 32 5 10 2 := ⟨_, _, _, rc5, by decide, by decide +kernel, uw5, gd 351 (by decide +kernel) rfl⟩
theorem lk_RX5_35 : FLk RX5 35 5 0 2 := ⟨_, _, _, rc5, by decide, by decide +kernel, uw5, gd 341 (by decide +kernel) rfl⟩
theorem lk_RX5_39 : FLk RX5 39 5 1 2 := ⟨_, _, _, rc5, by decide, by decide +kernel, uw5, gd 342 (by decide +kernel) rfl⟩
theorem lk_RX5_43 : FLk RX5 43 5 2 2 := ⟨_, _, _, rc5, by decide, by decide +kernel, uw5, gd 343 (by decide +kernel) rfl⟩
theorem lk_RX5_63 : FLk RX5 63 5 7 0 := ⟨_, _, _, rc5, by decide, by decide +kernel, uw5, gd 348 (by decide +kernel) rfl⟩
theorem lk_RX5_83 : FLk RX5 83 0 0 0 := ⟨_, _, _, rc0, by decide, by decide +kernel, uw0, gd 129 (by decide +kernel) rfl⟩
theorem lk_RX5_95 : FLk RX5 95 7 3 0 := ⟨_, _, _, rc7, by decide, by decide +kernel, uw7, gd 192 (by decide +kernel) rfl⟩
theorem lk_RX5_100 : FLk RX5 100 7 4 0 := ⟨_, _, _, rc7, by decide, by decide +kernel, uw7, gd 197 (by decide +kernel) rfl⟩
theorem lk_RX5_116 : FLk RX5 116 0 1 0 := ⟨_, _, _, rc0, by decide, by decide +kernel, uw0, gd 133 (by decide +kernel) rfl⟩
theorem lk_RX5_128 : FLk RX5 128 0 2 2 := ⟨_, _, _, rc0, by decide, by decide +kernel, uw0, gd 140 (by decide +kernel) rfl⟩
theorem lk_RX5_138 : FLk RX5 138 7 2 2 := ⟨_, _, _, rc7, by decide, by decide +kernel, uw7, gd 188 (by decide +kernel) rfl⟩
theorem lk_RX7_9 : FLk RX7 9 7 0 2 := ⟨_, _, _, rc7, by decide, by decide +kernel, uw7, gd 180 (by decide +kernel) rfl⟩
theorem lk_RX7_15 : FLk RX7 15 7 1 2 := ⟨_, _, _, rc7, by decide, by decide +kernel, uw7, gd 184 (by decide +kernel) rfl⟩
theorem lk_RX7_18 : FLk RX7 18 7 2 2 := ⟨_, _, _, rc7, by decide, by decide +kernel, uw7, gd 186 (by decide +kernel) rfl⟩
theorem lk_RX7_21 : FLk RX7 21 7 6 0 := ⟨_, _, _, rc7, by decide, by decide +kernel, uw7, gd 203 (by decide +kernel) rfl⟩
theorem lk_RX7_25 : FLk RX7 25 7 7 2 := ⟨_, _, _, rc7, by decide, by decide +kernel, uw7, gd 205 (by decide +kernel) rfl⟩
theorem lk_RX7_28 : FLk RX7 28 7 8 2 := ⟨_, _, _, rc7, by decide, by decide +kernel, uw7, gd 207 (by decide +kernel) rfl⟩
theorem lk_RX7_41 : FLk RX7 41 7 3 0 := ⟨_, _, _, rc7, by decide, by decide +kernel, uw7, gd 190 (by decide +kernel) rfl⟩
theorem lk_RX7_44 : FLk RX7 44 7 4 0 := ⟨_, _, _, rc7, by decide, by decide +kernel, uw7, gd 195 (by decide +kernel) rfl⟩
theorem lk_RX7_47 : FLk RX7 47 7 5 0 := ⟨_, _, _, rc7, by decide, by decide +kernel, uw7, gd 200 (by decide +kernel) rfl⟩
theorem lk_RX9_9 : FLk RX9 9 9 2 2 := ⟨_, _, _, rc9, by decide, by decide +kernel, uw9, gd 384 (by decide +kernel) rfl⟩
theorem lk_RX9_15 : FLk RX9 15 9 0 2 := ⟨_, _, _, rc9, by decide, by decide +kernel, uw9, gd 382 (by decide +kernel) rfl⟩
theorem lk_RX9_19 : FLk RX9 19 9 1 2 := ⟨_, _, _, rc9, by decide, by decide +kernel, uw9, gd 383 (by decide +kernel) rfl⟩
theorem lk_RX9_29 : FLk RX9 29 0 0 0 := ⟨_, _, _, rc0, by decide, by decide +kernel, uw0, gd 127 (by decide +kernel) rfl⟩
theorem lk_RX9_48 : FLk RX9 48 0 2 2 := ⟨_, _, _, rc0, by decide, by decide +kernel, uw0, gd 138 (by decide +kernel) rfl⟩
theorem lk_RX9_63 : FLk RX9 63 0 3 2 := ⟨_, _, _, rc0, by decide, by decide +kernel, uw0, gd 145 (by decide +kernel) rfl⟩
theorem pk_RX0_30 : FPk RX0 30 0 0 0 false (fun v => ∃ x, v = .int x) := ⟨_, _, _, tyX0, rc0, by decide, by decide +kernel, uw0, gd 126 (by decide +kernel) rfl, rfl, (fun h => nomatch h), tyX0_ok, nmX0, (fun v h => by obtain ⟨x, rfl⟩ := h; exact ⟨rfl, rfl⟩)⟩
theorem pk_RX0_34 : FPk RX0 34 0 1 0 false (fun v => ∃ x, v = .int x) := ⟨_, _, _, tyX0, rc0, by decide, by decide +kernel, uw0, gd 132 (by decide +kernel) rfl, rfl, (fun h => nomatch h), tyX0_ok, nmX0, (fun v h => by obtain ⟨x, rfl⟩ := h; exact ⟨rfl, rfl⟩)⟩
theorem pk_RX1_28 : FPk RX1 28 1 1 0 false (fun v => ∃ x, v = .int x) := ⟨_, _, _, tyX1, rc1, by decide, by decide +kernel, uw1, gd 235 (by decide +kernel) rfl, rfl, (fun h => nomatch h), tyX1_ok, nmX1, (fun v h => by obtain ⟨x, rfl⟩ := h; exact ⟨rfl, rfl⟩)⟩
theorem pk_RX1_32 : FPk RX1 32 1 2 0 false (fun v => ∃ x, v = .int x) := ⟨_, _, _, tyX1, rc1, by decide, by decide +kernel, uw1, gd 236 (by decide +kernel) rfl, rfl, (fun h => nomatch h), tyX1_ok, nmX1, (fun v h => by obtain ⟨x, rfl⟩ := h; exact ⟨rfl, rfl⟩)⟩
theorem pk_RX10_23 : FPk RX10 23 10 3 0 false (fun v => ∃ x, v = .int x) := ⟨_, _, _, tyX10, rc10, by decide, by decide +kernel, uw10, gd 403 (by decide +kernel) rfl, rfl, (fun h => nomatch h), tyX10_ok, nmX10, (fun v h => by obtain ⟨x, rfl⟩ := h; exact ⟨rfl, rfl⟩)⟩
theorem pk_RX10_27 : FPk RX10 27 10 2 0 false (fun v => ∃ x, v = .int x) := ⟨_, _, _, tyX10, rc10, by decide, by decide +kernel, uw10, gd 401 (by decide +kernel) rfl, rfl, (fun h => nomatch h), tyX10_ok, nmX10, (fun v h => by obtain ⟨x, rfl⟩ := h; exact ⟨rfl, rfl⟩)⟩
theorem pk_RX10_58 : FPk RX10 58 10 1 0 false (fun v => ∃ x, v = .int x) := ⟨_, _, _, tyX10, rc10, by decide, by decide +kernel, uw10, gd 399 (by decide +kernel) rfl, rfl, (fun h => nomatch h), tyX10_ok, nmX10, (fun v h => by obtain ⟨x, rfl⟩ := h; exact ⟨rfl, rfl⟩)⟩
theorem pk_RX11_108 : FPk RX11 108 2 1 0 false (fun v => ∃ x, v = .int x) := ⟨_, _, _, tyX2, rc2, by decide, by decide +kernel, uw2, gd 95 (by decide +kernel) rfl, rfl, (fun h => nomatch h), tyX2_ok, nmX2, (fun v h => by obtain ⟨x, rfl⟩ := h; exact ⟨rfl, rfl⟩)⟩
theorem pk_RX11_157 : FPk RX11 157 7 4 0 false (fun v => ∃ x, v = .int x) := ⟨_, _, _, tyX7, rc7, by decide, by decide +kernel, uw7, gd 199 (by decide +kernel) rfl, rfl, (fun h => nomatch h), tyX7_ok, nmX7, (fun v h => by obtain ⟨x, rfl⟩ := h; exact ⟨rfl, rfl⟩)⟩
theorem pk_RX11_163 : FPk RX11 163 7 3 0 false (fun v => ∃ x, v = .int x) := ⟨_, _, _, tyX7, rc7, by decide, by decide +kernel, uw7, gd 193 (by decide +kernel) rfl, rfl, (fun h => nomatch h), tyX7_ok, nmX7, (fun v h => by obtain ⟨x, rfl⟩ := h; exact ⟨rfl, rfl⟩)⟩
theorem pk_RX11_293 : FPk RX11 293 7 5 0 false (fun v => ∃ x, v = .int x) := ⟨_, _, _, tyX7, rc7, by decide, by decide +kernel, uw7, gd 202 (by decide +kernel) rfl, rfl, (fun h => nomatch h), tyX7_ok, nmX7, (fun v h => by obtain ⟨x, rfl⟩ := h; exact ⟨rfl, rfl⟩)⟩
theorem pk_RX11_299 : FPk RX11 299 7 6 0 false (fun v => ∃ x, v = .int x) := ⟨_, _, _, tyX7, rc7, by decide, by decide +kernel, uw7, gd 204 (by decide +kernel) rfl, rfl, (fun h => nomatch h), tyX7_ok, nmX7, (fun v h => by obtain ⟨x, rfl⟩ := h; exact ⟨rfl, rfl⟩)⟩
theorem pk_RX11_311 : FPk RX11 311 10 1 0 false (fun v => ∃ x, v = .int x) := ⟨_, _, _, tyX10, rc10, by decide, by decide +kernel, uw10, gd 400 (by decide +kernel) rfl, rfl, (fun h => nomatch h), tyX10_ok, nmX10, (fun v h => by obtain ⟨x, rfl⟩ := h; exact ⟨rfl, rfl⟩)⟩
theorem pk_RX11_347 : FPk RX11 347 10 2 0 false (fun v => ∃ x, v = .int x) := ⟨_, _, _, tyX10, rc10, by decide, by decide +kernel, uw10, gd 402 (by decide +kernel) rfl, rfl, (fun h => nomatch h), tyX10_ok, nmX10, (fun v h => by obtain ⟨x, rfl⟩ := h; exact ⟨rfl, rfl⟩)⟩
theorem pk_RX2_15 : FPk RX2 15 2 1 0 false (fun v => ∃ x, v = .int x) := ⟨_, _, _, tyX2, rc2, by decide, by decide +kernel, uw2, gd 94 (by decide +kernel) rfl, rfl, (fun h => nomatch h), tyX2_ok, nmX2, (fun v h => by obtain ⟨x, rfl⟩ := h; exact ⟨rfl, rfl⟩)⟩
theorem pk_RX2_25 : FPk RX2 25 2 2 0 false (fun v => ∃ x, v = .int x) := ⟨_, _, _, tyX2, rc2, by decide, by decide +kernel, uw2, gd 96 (by decide +kernel) rfl, rfl, (fun h => nomatch h), tyX2_ok, nmX2, (fun v h => by obtain ⟨x, rfl⟩ := h; exact ⟨rfl, rfl⟩)⟩
theorem pk_RX2_28 : FPk RX2 28 2 5 0 false (fun v => ∃ x, v = .int x) := ⟨_, _, _, tyX2, rc2, by decide, by decide +kernel, uw2, gd 101 (by decide +kernel) rfl, rfl, (fun h => nomatch h), tyX2_ok, nmX2, (fun v h => by obtain ⟨x, rfl⟩ := h; exact ⟨rfl, rfl⟩)⟩
theorem pk_RX2_34 : FPk RX2 34 2 4 0 false (fun v => ∃ x, v = .int x) := ⟨_, _, _, tyX2, rc2, by decide, by decide +kernel, uw2, gd 100 (by decide +kernel) rfl, rfl, (fun h => nomatch h), tyX2_ok, nmX2, (fun v h => by obtain ⟨x, rfl⟩ := h; exact ⟨rfl, rfl⟩)⟩
theorem pk_RX2_37 : FPk RX2 37 2 3 0 false (fun v => ∃ x, v = .int x) := ⟨_, _, _, tyX2, rc2, by decide, by decide +kernel, uw2, gd 98 (by decide +kernel) rfl, rfl, (fun h => nomatch h), tyX2_ok, nmX2, (fun v h => by obtain ⟨x, rfl⟩ := h; exact ⟨rfl, rfl⟩)⟩
theorem pk_RX2_47 : FPk RX2 47 2 6 0 false (fun v => ∃ x, v = .int x) := ⟨_, _, _, tyX2, rc2, by decide, by decide +kernel, uw2, gd 103 (by decide +kernel) rfl, rfl, (fun h => nomatch h), tyX2_ok, nmX2, (fun v h => by obtain ⟨x, rfl⟩ := h; exact ⟨rfl, rfl⟩)⟩
theorem pk_RX3_21 : FPk RX3 21 3 0 0 false (fun v => ∃ x, v = .int x) := ⟨_, _, _, tyX3, rc3, by decide, by decide +kernel, uw3, gd 302 (by decide +kernel) rfl, rfl, (fun h => nomatch h), tyX3_ok, nmX3, (fun v h => by obtain ⟨x, rfl⟩ := h; exact ⟨rfl, rfl⟩)⟩
theorem pk_RX3_25 : FPk RX3 25 3 3 0 false (fun v => ∃ x, v = .int x) := ⟨_, _, _, tyX3, rc3, by decide, by decide +kernel, uw3, gd 306 (by decide +kernel) rfl, rfl, (fun h => nomatch h), tyX3_ok, nmX3, (fun v h => by obtain ⟨x, rfl⟩ := h; exact ⟨rfl, rfl⟩)⟩
theorem pk_RX4_25 : FPk RX4 25 4 3 0 false (fun v => ∃ x, v = .int x) := ⟨_, _, _, tyX4, rc4, by decide, by decide +kernel, uw4, gd 273 (by decide +kernel) rfl, rfl, (fun h => nomatch h), tyX4_ok, nmX4, (fun v h => by obtain ⟨x, rfl⟩ := h; exact ⟨rfl, rfl⟩)⟩
theorem pk_RX4_33 : FPk RX4 33 4 2 0 false (fun v => ∃ x, v = .int x) := ⟨_, _, _, tyX4, rc4, by decide, by decide +kernel, uw4, gd 271 (by decide +kernel) rfl, rfl, (fun h => nomatch h), tyX4_ok, nmX4, (fun v h => by obtain ⟨x, rfl⟩ := h; exact ⟨rfl, rfl⟩)⟩
theorem pk_RX4_36 : FPk RX4 36 4 6 0 false (fun v => ∃ x, v = .int x) := ⟨_, _, _, tyX4, rc4, by decide, by decide +kernel, uw4, gd 277 (by decide +kernel) rfl, rfl, (fun h => nomatch h), tyX4_ok, nmX4, (fun v h => by obtain ⟨x, rfl⟩ := h; exact ⟨rfl, rfl⟩)⟩
theorem pk_RX4_79 : FPk RX4 79 4 5 0 false (fun v => ∃ x, v = .int x) := ⟨_, _, _, tyX4, rc4, by decide, by decide +kernel, uw4, gd 276 (by decide +kernel) rfl, rfl, (fun h => nomatch h), tyX4_ok, nmX4, (fun v h => by obtain ⟨x, rfl⟩ := h; exact ⟨rfl, rfl⟩)⟩
theorem pk_RX4_86 : FPk RX4 86 0 0 0 false (fun v => ∃ x, v = .int x) := ⟨_, _, _, tyX0, rc0, by decide, by decide +kernel, uw0, gd 131 (by decide +kernel) rfl, rfl, (fun h => nomatch h), tyX0_ok, nmX0, (fun v h => by obtain ⟨x, rfl⟩ := h; exact ⟨rfl, rfl⟩)⟩
theorem pk_RX4_99 : FPk RX4 99 7 4 0 false (fun v => ∃ x, v = .int x) := ⟨_, _, _, tyX7, rc7, by decide, by decide +kernel, uw7, gd 198 (by decide +kernel) rfl, rfl, (fun h => nomatch h), tyX7_ok, nmX7, (fun v h => by obtain ⟨x, rfl⟩ := h; exact ⟨rfl, rfl⟩)⟩
theorem pk_RX4_103 : FPk RX4 103 7 5 0 false (fun v => ∃ x, v = .int x) := ⟨_, _, _, tyX7, rc7, by decide, by decide +kernel, uw7, gd 201 (by decide +kernel) rfl, rfl, (fun h => nomatch h), tyX7_ok, nmX7, (fun v h => by obtain ⟨x, rfl⟩ := h; exact ⟨rfl, rfl⟩)⟩
theorem pk_RX4_123 : FPk RX4 123 0 1 0 false (fun v => ∃ x, v = .int x) := ⟨_, _, _, tyX0, rc0, by decide, by decide +kernel, uw0, gd 135 (by decide +kernel) rfl, rfl, (fun h => nomatch h), tyX0_ok, nmX0, (fun v h => by obtain ⟨x, rfl⟩ := h; exact ⟨rfl, rfl⟩)⟩
theorem pk_RX4_135 : FPk RX4 135 7 3 0 false (fun v => ∃ x, v = .int x) := ⟨_, _, _, tyX7, rc7, by decide, by decide +kernel, uw7, gd 194 (by decide +kernel) rfl, rfl, (fun h => nomatch h), tyX7_ok, nmX7, (fun v h => by obtain ⟨x, rfl⟩ := h; exact ⟨rfl, rfl⟩)⟩
theorem pk_RX5_18 : FPk RX5 18 5 5 0 false (fun v => ∃ x, v = .int x) := ⟨_, _, _, tyX5, rc5, by decide, by decide +kernel, uw5, gd 346 (by decide +kernel) rfl, rfl, (fun h => nomatch h), tyX5_ok, nmX5, (fun v h => by obtain ⟨x, rfl⟩ := h; exact ⟨rfl, rfl⟩)⟩
theorem pk_RX5_22 : FPk RX5 22 5 6 0 false (fun v => ∃ x, v = .int x) := ⟨_, _, _, tyX5, rc5, by decide, by decide +kernel, uw5, gd 347 (by decide +kernel) rfl, rfl, (fun h => nomatch h), tyX5_ok, nmX5, (fun v h => by obtain ⟨x, rfl⟩ := h; exact ⟨rfl, rfl⟩)⟩
theorem pk_RX5_63 : FPk RX5 63 5 7 0 false (fun v => ∃ x, v = .int x) := ⟨_, _, _, tyX5, rc5, by decide, by decide +kernel, uw5, gd 348 (by decide +kernel) rfl, rfl, (fun h => nomatch h), tyX5_ok, nmX5, (fun v h => by obtain ⟨x, rfl⟩ := h; exact ⟨rfl, rfl⟩)⟩
theorem pk_RX7_21 : FPk RX7 21 7 6 0 false (fun v => ∃ x, v = .int x) := ⟨_, _, _, tyX7, rc7, by decide, by decide +kernel, uw7, gd 203 (by decide +kernel) rfl, rfl, (fun h => nomatch h), tyX7_ok, nmX7, (fun v h => by obtain ⟨x, rfl⟩ := h; exact ⟨rfl, rfl⟩)⟩
theorem pk_RX7_41 : FPk RX7 41 7 3 0 false (fun v => ∃ x, v = .int x) := ⟨_, _, _, tyX7, rc7, by decide, by decide +kernel, uw7, gd 190 (by decide +kernel) rfl, rfl, (fun h => nomatch h), tyX7_ok, nmX7, (fun v h => by obtain ⟨x, rfl⟩ := h; exact ⟨rfl, rfl⟩)⟩
theorem pk_RX7_44 : FPk RX7 44 7 4 0 false (fun v => ∃ x, v = .int x) := ⟨_, _, _, tyX7, rc7, by decide, by decide +kernel, uw7, gd 195 (by decide +kernel) rfl, rfl, (fun h => nomatch h), tyX7_ok, nmX7, (fun v h => by obtain ⟨x, rfl⟩ := h; exact ⟨rfl, rfl⟩)⟩
theorem pk_RX7_47 : FPk RX7 47 7 5 0 false (fun v => ∃ x, v = .int x) := ⟨_, _, _, tyX7, rc7, by decide, by decide +kernel, uw7, gd 200 (by decide +kernel) rfl, rfl, (fun h => nomatch h), tyX7_ok, nmX7, (fun v h => by obtain ⟨x, rfl⟩ := h; exact ⟨rfl, rfl⟩)⟩
theorem ln_RX0_37 : Gd (.methodLink RX0 37 yJ7_fill_53178) := gd 926 (by decide +kernel) rfl
theorem ln_RX0_43 : Gd (.methodLinkNest RX0 43 yX11_copyRow "DecisionChain") := gd 1073 (by decide +kernel) rfl
theorem ln_RX1_35 : Gd (.methodLink RX1 35 yX1_fillParts) := gd 1177 (by decide +kernel) rfl
theorem ln_RX1_39 : Gd (.methodLink RX1 39 yJ7_fill_d0a16) := gd 1181 (by decide +kernel) rfl
theorem ln_RX1_45 : Gd (.methodLink RX1 45 yX1_spread) := gd 1190 (by decide +kernel) rfl
theorem ln_RX1_58 : Gd (.methodLinkNest RX1 58 yX11_rowOf "DecisionChain") := gd 1184 (by decide +kernel) rfl
theorem ln_RX1_62 : Gd (.methodLink RX1 62 yX1_addParts) := gd 1185 (by decide +kernel) rfl
theorem ln_RX1_66 : Gd (.methodLink RX1 66 yX0_percentTo) := gd 1189 (by decide +kernel) rfl
theorem ln_RX1_69 : Gd (.methodLink RX1 69 yX1_partsTo) := gd 1194 (by decide +kernel) rfl
theorem ln_RX1_73 : Gd (.methodLink RX1 73 yX1_sumOf) := gd 1230 (by decide +kernel) rfl
theorem ln_RX1_78 : Gd (.methodLink RX1 78 yX1_at) := gd 1235 (by decide +kernel) rfl
theorem ln_RX1_81 : Gd (.methodLink RX1 81 yX1_visitsOf) := gd 1226 (by decide +kernel) rfl
theorem ln_RX1_88 : Gd (.methodLink RX1 88 yX0_amountOf) := gd 1327 (by decide +kernel) rfl
theorem ln_RX1_91 : Gd (.methodLink RX1 91 yX1_fillChances) := gd 1244 (by decide +kernel) rfl
theorem ln_RX1_94 : Gd (.methodLink RX1 94 yX1_likeliestNext) := gd 1255 (by decide +kernel) rfl
theorem ln_RX1_97 : Gd (.methodLink RX1 97 yX1_chanceOver) := gd 1248 (by decide +kernel) rfl
theorem ln_RX1_101 : Gd (.methodLink RX1 101 yJ9_max_f86c9) := gd 1252 (by decide +kernel) rfl
theorem ln_RX10_15 : Gd (.methodLink RX10 15 yX10_draw) := gd 1384 (by decide +kernel) rfl
theorem ln_RX10_19 : Gd (.methodLink RX10 19 yX10_drawAction) := gd 1388 (by decide +kernel) rfl
theorem ln_RX10_30 : Gd (.methodLinkNest RX10 30 yX11_rowOf "DecisionChain") := gd 1392 (by decide +kernel) rfl
theorem ln_RX10_34 : Gd (.methodLink RX10 34 yX10_drawNext) := gd 1393 (by decide +kernel) rfl
theorem ln_RX10_49 : Gd (.methodLink RX10 49 yX10_step) := gd 1380 (by decide +kernel) rfl
theorem ln_RX10_70 : Gd (.methodLink RX10 70 yX0_percentTo) := gd 1397 (by decide +kernel) rfl
theorem ln_RX11_100 : Gd (.methodLink RX11 100 yX2_hasRoom) := gd 839 (by decide +kernel) rfl
theorem ln_RX11_104 : Gd (.methodLink RX11 104 yX2_put) := gd 843 (by decide +kernel) rfl
theorem ln_RX11_119 : Gd (.methodLink RX11 119 yX4_parse) := gd 918 (by decide +kernel) rfl
theorem ln_RX11_128 : Gd (.methodLink RX11 128 yX0_copyFrom) := gd 1069 (by decide +kernel) rfl
theorem ln_RX11_134 : Gd (.methodLink RX11 134 yX7_copyFrom) := gd 1078 (by decide +kernel) rfl
theorem ln_RX11_137 : Gd (.methodLink RX11 137 yX3_forget) := gd 1083 (by decide +kernel) rfl
theorem ln_RX11_140 : Gd (.methodLink RX11 140 yX5_forget) := gd 1087 (by decide +kernel) rfl
theorem ln_RX11_141 : Gd (.methodLink RX11 141 yX0_countActions) := gd 1091 (by decide +kernel) rfl
theorem ln_RX11_160 : Gd (.methodLink RX11 160 yX11_needChain) := gd 1116 (by decide +kernel) rfl
theorem ln_RX11_166 : Gd (.methodLink RX11 166 yX11_needState) := gd 1112 (by decide +kernel) rfl
theorem ln_RX11_172 : Gd (.methodLink RX11 172 yX11_needAction) := gd 1108 (by decide +kernel) rfl
theorem ln_RX11_179 : Gd (.methodLink RX11 179 yX11_rowOf) := gd 936 (by decide +kernel) rfl
theorem ln_RX11_183 : Gd (.methodLink RX11 183 yX11_needBudget) := gd 1142 (by decide +kernel) rfl
theorem ln_RX11_186 : Gd (.methodLink RX11 186 yX0_amountOf) := gd 1147 (by decide +kernel) rfl
theorem ln_RX11_189 : Gd (.methodLink RX11 189 yX0_percentTo) := gd 1152 (by decide +kernel) rfl
theorem ln_RX11_195 : Gd (.methodLink RX11 195 yX7_permits) := gd 1428 (by decide +kernel) rfl
theorem ln_RX11_202 : Gd (.methodLink RX11 202 yX11_needTime) := gd 1161 (by decide +kernel) rfl
theorem ln_RX11_205 : Gd (.methodLink RX11 205 yX11_followRules) := gd 1169 (by decide +kernel) rfl
theorem ln_RX11_208 : Gd (.methodLink RX11 208 yX1_at) := gd 1198 (by decide +kernel) rfl
theorem ln_RX11_212 : Gd (.methodLink RX11 212 yX11_needRange) := gd 1165 (by decide +kernel) rfl
theorem ln_RX11_216 : Gd (.methodLink RX11 216 yX1_nextStates) := gd 1206 (by decide +kernel) rfl
theorem ln_RX11_220 : Gd (.methodLink RX11 220 yX1_visitsOf) := gd 1589 (by decide +kernel) rfl
theorem ln_RX11_224 : Gd (.methodLink RX11 224 yX1_hitOf) := gd 1598 (by decide +kernel) rfl
theorem ln_RX11_227 : Gd (.methodLink RX11 227 yX11_unitOf) := gd 1361 (by decide +kernel) rfl
theorem ln_RX11_230 : Gd (.methodLink RX11 230 yX1_gainOf) := gd 1362 (by decide +kernel) rfl
theorem ln_RX11_234 : Gd (.methodLink RX11 234 yX1_usedOf) := gd 1360 (by decide +kernel) rfl
theorem ln_RX11_238 : Gd (.methodLink RX11 238 yX11_brokenWith) := gd 1356 (by decide +kernel) rfl
theorem ln_RX11_250 : Gd (.methodLink RX11 250 yX1_rankOf) := gd 1222 (by decide +kernel) rfl
theorem ln_RX11_257 : Gd (.methodLink RX11 257 yX1_stateOfLikeliest) := gd 1240 (by decide +kernel) rfl
theorem ln_RX11_260 : Gd (.methodLink RX11 260 yX9_fill) := gd 1263 (by decide +kernel) rfl
theorem ln_RX11_263 : Gd (.methodLink RX11 263 yX9_of) := gd 1289 (by decide +kernel) rfl
theorem ln_RX11_266 : Gd (.methodLink RX11 266 yX9_firstAction) := gd 1294 (by decide +kernel) rfl
theorem ln_RX11_269 : Gd (.methodLink RX11 269 yX5_findBest) := gd 1299 (by decide +kernel) rfl
theorem ln_RX11_285 : Gd (.methodLink RX11 285 yX11_copyRow) := gd 1354 (by decide +kernel) rfl
theorem ln_RX11_289 : Gd (.methodLink RX11 289 yX11_setWeights) := gd 1355 (by decide +kernel) rfl
theorem ln_RX11_296 : Gd (.methodLink RX11 296 yX11_needWalk) := gd 1367 (by decide +kernel) rfl
theorem ln_RX11_308 : Gd (.methodLink RX11 308 yX7_walkRow) := gd 1534 (by decide +kernel) rfl
theorem ln_RX11_312 : Gd (.methodLink RX11 312 yX10_gainOfNext) := gd 1376 (by decide +kernel) rfl
theorem ln_RX11_331 : Gd (.methodLink RX11 331 yX3_keep) := gd 1408 (by decide +kernel) rfl
theorem ln_RX11_339 : Gd (.methodLink RX11 339 yX5_writeWeights) := gd 1422 (by decide +kernel) rfl
theorem ln_RX11_350 : Gd (.methodLink RX11 350 yX10_step) := gd 1529 (by decide +kernel) rfl
theorem ln_RX11_362 : Gd (.methodLink RX11 362 yX3_giveBack) := gd 1442 (by decide +kernel) rfl
theorem ln_RX11_365 : Gd (.methodLink RX11 365 yX11_needSlot) := gd 1450 (by decide +kernel) rfl
theorem ln_RX11_368 : Gd (.methodLink RX11 368 yX3_put) := gd 1454 (by decide +kernel) rfl
theorem ln_RX11_371 : Gd (.methodLink RX11 371 yX3_isFull) := gd 1462 (by decide +kernel) rfl
theorem ln_RX11_376 : Gd (.methodLink RX11 376 yX3_take) := gd 1467 (by decide +kernel) rfl
theorem ln_RX11_393 : Gd (.methodLink RX11 393 yJ9_min_7cf53) := gd 1076 (by decide +kernel) rfl
theorem ln_RX11_398 : Gd (.methodLink RX11 398 arraycopyName) := gd 1077 (by decide +kernel) rfl
theorem ln_RX11_408 : Gd (.methodLink RX11 408 yX1_follow) := gd 1173 (by decide +kernel) rfl
theorem ln_RX2_19 : Gd (.methodLink RX2 19 yJ9_min_7cf53) := gd 944 (by decide +kernel) rfl
theorem ln_RX2_31 : Gd (.methodLink RX2 31 yX2_advance) := gd 945 (by decide +kernel) rfl
theorem ln_RX2_40 : Gd (.methodLink RX2 40 yX2_isLetter) := gd 949 (by decide +kernel) rfl
theorem ln_RX2_44 : Gd (.methodLink RX2 44 yX2_isDigit) := gd 952 (by decide +kernel) rfl
theorem ln_RX2_50 : Gd (.methodLink RX2 50 yJ0_length_8abf5) := gd 968 (by decide +kernel) rfl
theorem ln_RX2_56 : Gd (.methodLink RX2 56 yJ0_charAt_5068e) := gd 969 (by decide +kernel) rfl
theorem ln_RX3_28 : Gd (.methodLink RX3 28 yX3_dropOldest) := gd 1412 (by decide +kernel) rfl
theorem ln_RX3_31 : Gd (.methodLink RX3 31 yX7_copyFrom) := gd 1416 (by decide +kernel) rfl
theorem ln_RX4_39 : Gd (.methodLink RX4 39 yX0_clear) := gd 922 (by decide +kernel) rfl
theorem ln_RX4_42 : Gd (.methodLink RX4 42 yX7_clear) := gd 929 (by decide +kernel) rfl
theorem ln_RX4_43 : Gd (.methodLink RX4 43 yX2_begin) := gd 940 (by decide +kernel) rfl
theorem ln_RX4_49 : Gd (.methodLink RX4 49 yX4_parseHead) := gd 955 (by decide +kernel) rfl
theorem ln_RX4_56 : Gd (.methodLink RX4 56 yX2_advance) := gd 974 (by decide +kernel) rfl
theorem ln_RX4_59 : Gd (.methodLink RX4 59 yX4_parseLine) := gd 986 (by decide +kernel) rfl
theorem ln_RX4_62 : Gd (.methodLink RX4 62 yX4_checkStates) := gd 1049 (by decide +kernel) rfl
theorem ln_RX4_65 : Gd (.methodLink RX4 65 yX4_fail) := gd 970 (by decide +kernel) rfl
theorem ln_RX4_72 : Gd (.methodLink RX4 72 yX2_isWord) := gd 964 (by decide +kernel) rfl
theorem ln_RX4_82 : Gd (.methodLink RX4 82 yX4_seeNumber) := gd 980 (by decide +kernel) rfl
theorem ln_RX4_90 : Gd (.methodLink RX4 90 yX4_takeWord) := gd 960 (by decide +kernel) rfl
theorem ln_RX4_94 : Gd (.methodLink RX4 94 yX4_takeNumber) := gd 976 (by decide +kernel) rfl
theorem ln_RX4_107 : Gd (.methodLink RX4 107 yX4_parseBudget) := gd 991 (by decide +kernel) rfl
theorem ln_RX4_112 : Gd (.methodLink RX4 112 yX4_parseAct) := gd 996 (by decide +kernel) rfl
theorem ln_RX4_117 : Gd (.methodLink RX4 117 yX4_parseRule) := gd 1036 (by decide +kernel) rfl
theorem ln_RX4_120 : Gd (.methodLink RX4 120 yX4_parseStart) := gd 1044 (by decide +kernel) rfl
theorem ln_RX4_132 : Gd (.methodLink RX4 132 yX4_seeState) := gd 1000 (by decide +kernel) rfl
theorem ln_RX4_140 : Gd (.methodLinkNest RX4 140 yX11_rowOf "DecisionChain") := gd 1004 (by decide +kernel) rfl
theorem ln_RX4_144 : Gd (.methodLink RX4 144 yX4_parseGain) := gd 1005 (by decide +kernel) rfl
theorem ln_RX4_147 : Gd (.methodLink RX4 147 yX4_parseUses) := gd 1009 (by decide +kernel) rfl
theorem ln_RX4_150 : Gd (.methodLink RX4 150 yX4_parsePercents) := gd 1018 (by decide +kernel) rfl
theorem ln_RX4_158 : Gd (.methodLink RX4 158 yX0_amountOf) := gd 1014 (by decide +kernel) rfl
theorem ln_RX4_166 : Gd (.methodLink RX4 166 yX0_percentTo) := gd 1023 (by decide +kernel) rfl
theorem ln_RX4_169 : Gd (.methodLink RX4 169 yX0_tell) := gd 1027 (by decide +kernel) rfl
theorem ln_RX4_173 : Gd (.methodLink RX4 173 yX4_endLine) := gd 1031 (by decide +kernel) rfl
theorem ln_RX4_176 : Gd (.methodLink RX4 176 yX4_parseWeights) := gd 1040 (by decide +kernel) rfl
theorem ln_RX5_47 : Gd (.methodLink RX5 47 yX5_fill) := gd 1303 (by decide +kernel) rfl
theorem ln_RX5_52 : Gd (.methodLink RX5 52 yX5_begin) := gd 1307 (by decide +kernel) rfl
theorem ln_RX5_56 : Gd (.methodLink RX5 56 yX5_isPermittedSet) := gd 1333 (by decide +kernel) rfl
theorem ln_RX5_59 : Gd (.methodLink RX5 59 yX5_holds) := gd 1338 (by decide +kernel) rfl
theorem ln_RX5_66 : Gd (.methodLinkNest RX5 66 yX11_copyRow "DecisionChain") := gd 1347 (by decide +kernel) rfl
theorem ln_RX5_70 : Gd (.methodLink RX5 70 yX5_moveOn) := gd 1328 (by decide +kernel) rfl
theorem ln_RX5_88 : Gd (.methodLinkNest RX5 88 yX11_setWeights "DecisionChain") := gd 1316 (by decide +kernel) rfl
theorem ln_RX5_92 : Gd (.methodLinkNest RX5 92 yX11_rowOf "DecisionChain") := gd 1317 (by decide +kernel) rfl
theorem ln_RX5_103 : Gd (.methodLink RX5 103 yX5_writeWeights) := gd 1312 (by decide +kernel) rfl
theorem ln_RX5_106 : Gd (.methodLink RX5 106 yX1_follow) := gd 1318 (by decide +kernel) rfl
theorem ln_RX5_112 : Gd (.methodLink RX5 112 yX1_gainOf) := gd 1319 (by decide +kernel) rfl
theorem ln_RX5_119 : Gd (.methodLink RX5 119 yX1_usedOf) := gd 1323 (by decide +kernel) rfl
theorem ln_RX5_123 : Gd (.methodLink RX5 123 yJ7_fill_53178) := gd 1311 (by decide +kernel) rfl
theorem ln_RX5_131 : Gd (.methodLink RX5 131 yX7_permits) := gd 1337 (by decide +kernel) rfl
theorem ln_RX5_134 : Gd (.methodLinkNest RX5 134 yX11_unitOf "DecisionChain") := gd 1342 (by decide +kernel) rfl
theorem ln_RX7_31 : Gd (.methodLinkNest RX7 31 yX11_setWeights "DecisionChain") := gd 933 (by decide +kernel) rfl
theorem ln_RX7_35 : Gd (.methodLink RX7 35 yJ7_fill_53178) := gd 939 (by decide +kernel) rfl
theorem ln_RX7_50 : Gd (.methodLinkNest RX7 50 yX11_copyRow "DecisionChain") := gd 1082 (by decide +kernel) rfl
theorem ln_RX7_54 : Gd (.methodLinkNest RX7 54 yX11_rowOf "DecisionChain") := gd 1538 (by decide +kernel) rfl
theorem ln_RX9_23 : Gd (.methodLink RX9 23 yJ7_fill_d0a16) := gd 1267 (by decide +kernel) rfl
theorem ln_RX9_35 : Gd (.methodLink RX9 35 yX9_firstAction) := gd 1268 (by decide +kernel) rfl
theorem ln_RX9_39 : Gd (.methodLinkNest RX9 39 yX11_rowOf "DecisionChain") := gd 1273 (by decide +kernel) rfl
theorem ln_RX9_42 : Gd (.methodLink RX9 42 yX9_valueOver) := gd 1274 (by decide +kernel) rfl
theorem ln_RX9_52 : Gd (.methodLink RX9 52 yX7_permits) := gd 1284 (by decide +kernel) rfl
theorem ln_RX9_58 : Gd (.methodLink RX9 58 yJ9_max_7cf53) := gd 1288 (by decide +kernel) rfl
theorem ln_RX9_68 : Gd (.methodLink RX9 68 yX0_percentTo) := gd 1279 (by decide +kernel) rfl
theorem ln_RX9_71 : Gd (.methodLink RX9 71 yX9_of) := gd 1280 (by decide +kernel) rfl
theorem mw_J7_fill_53178 : MW yJ7_fill_53178 cJ7_fill_53178 4 none 2 := ⟨gd 55 (by decide +kernel) rfl, gd 928 (by decide +kernel) rfl, ⟨by decide, by decide⟩, by decide +kernel⟩
theorem mw_J7_fill_d0a16 : MW yJ7_fill_d0a16 cJ7_fill_d0a16 5 none 2 := ⟨gd 55 (by decide +kernel) rfl, gd 1183 (by decide +kernel) rfl, ⟨by decide, by decide⟩, by decide +kernel⟩
theorem mw_X0_amountOf : MW yX0_amountOf cX0_amountOf 3 (some .int) 2 := ⟨gd 63 (by decide +kernel) rfl, gd 1017 (by decide +kernel) rfl, ⟨by decide, by decide⟩, by decide +kernel⟩
theorem mw_X0_clear : MW yX0_clear cX0_clear 1 none 0 := ⟨gd 63 (by decide +kernel) rfl, gd 925 (by decide +kernel) rfl, ⟨by decide, by decide⟩, by decide +kernel⟩
theorem mw_X0_copyFrom : MW yX0_copyFrom cX0_copyFrom 2 none 1 := ⟨gd 63 (by decide +kernel) rfl, gd 1072 (by decide +kernel) rfl, ⟨by decide, by decide⟩, by decide +kernel⟩
theorem mw_X0_countActions : MW yX0_countActions cX0_countActions 3 (some .int) 0 := ⟨gd 63 (by decide +kernel) rfl, gd 1094 (by decide +kernel) rfl, ⟨by decide, by decide⟩, by decide +kernel⟩
theorem mw_X0_percentTo : MW yX0_percentTo cX0_percentTo 3 (some .int) 2 := ⟨gd 63 (by decide +kernel) rfl, gd 1026 (by decide +kernel) rfl, ⟨by decide, by decide⟩, by decide +kernel⟩
theorem mw_X0_tell : MW yX0_tell cX0_tell 4 none 3 := ⟨gd 63 (by decide +kernel) rfl, gd 1030 (by decide +kernel) rfl, ⟨by decide, by decide⟩, by decide +kernel⟩
theorem mw_X10_draw : MW yX10_draw cX10_draw 1 (some .int) 0 := ⟨gd 71 (by decide +kernel) rfl, gd 1387 (by decide +kernel) rfl, ⟨by decide, by decide⟩, by decide +kernel⟩
theorem mw_X10_drawAction : MW yX10_drawAction cX10_drawAction 5 (some .int) 2 := ⟨gd 71 (by decide +kernel) rfl, gd 1391 (by decide +kernel) rfl, ⟨by decide, by decide⟩, by decide +kernel⟩
theorem mw_X10_drawNext : MW yX10_drawNext cX10_drawNext 6 (some .int) 2 := ⟨gd 71 (by decide +kernel) rfl, gd 1396 (by decide +kernel) rfl, ⟨by decide, by decide⟩, by decide +kernel⟩
theorem mw_X10_gainOfNext : MW yX10_gainOfNext cX10_gainOfNext 5 (some .int) 1 := ⟨gd 71 (by decide +kernel) rfl, gd 1379 (by decide +kernel) rfl, ⟨by decide, by decide⟩, by decide +kernel⟩
theorem mw_X10_step : MW yX10_step cX10_step 2 none 1 := ⟨gd 71 (by decide +kernel) rfl, gd 1383 (by decide +kernel) rfl, ⟨by decide, by decide⟩, by decide +kernel⟩
theorem mw_X11_brokenWith : MW yX11_brokenWith cX11_brokenWith 4 (some .int) 1 := ⟨gd 61 (by decide +kernel) rfl, gd 1359 (by decide +kernel) rfl, ⟨by decide, by decide⟩, by decide +kernel⟩
theorem mw_X11_copyRow : MW yX11_copyRow cX11_copyRow 2 none 2 := ⟨gd 61 (by decide +kernel) rfl, gd 1075 (by decide +kernel) rfl, ⟨by decide, by decide⟩, by decide +kernel⟩
theorem mw_X11_followRules : MW yX11_followRules cX11_followRules 1 none 0 := ⟨gd 61 (by decide +kernel) rfl, gd 1172 (by decide +kernel) rfl, ⟨by decide, by decide⟩, by decide +kernel⟩
theorem mw_X11_needAction : MW yX11_needAction cX11_needAction 3 none 2 := ⟨gd 61 (by decide +kernel) rfl, gd 1111 (by decide +kernel) rfl, ⟨by decide, by decide⟩, by decide +kernel⟩
theorem mw_X11_needBudget : MW yX11_needBudget cX11_needBudget 2 none 1 := ⟨gd 61 (by decide +kernel) rfl, gd 1145 (by decide +kernel) rfl, ⟨by decide, by decide⟩, by decide +kernel⟩
theorem mw_X11_needChain : MW yX11_needChain cX11_needChain 1 none 0 := ⟨gd 61 (by decide +kernel) rfl, gd 1119 (by decide +kernel) rfl, ⟨by decide, by decide⟩, by decide +kernel⟩
theorem mw_X11_needRange : MW yX11_needRange cX11_needRange 3 none 3 := ⟨gd 61 (by decide +kernel) rfl, gd 1167 (by decide +kernel) rfl, ⟨by decide, by decide⟩, by decide +kernel⟩
theorem mw_X11_needSlot : MW yX11_needSlot cX11_needSlot 1 none 1 := ⟨gd 61 (by decide +kernel) rfl, gd 1452 (by decide +kernel) rfl, ⟨by decide, by decide⟩, by decide +kernel⟩
theorem mw_X11_needState : MW yX11_needState cX11_needState 2 none 1 := ⟨gd 61 (by decide +kernel) rfl, gd 1115 (by decide +kernel) rfl, ⟨by decide, by decide⟩, by decide +kernel⟩
theorem mw_X11_needTime : MW yX11_needTime cX11_needTime 2 none 1 := ⟨gd 61 (by decide +kernel) rfl, gd 1164 (by decide +kernel) rfl, ⟨by decide, by decide⟩, by decide +kernel⟩
theorem mw_X11_needWalk : MW yX11_needWalk cX11_needWalk 1 none 0 := ⟨gd 61 (by decide +kernel) rfl, gd 1370 (by decide +kernel) rfl, ⟨by decide, by decide⟩, by decide +kernel⟩
theorem mw_X11_rowOf : MW yX11_rowOf cX11_rowOf 2 (some .int) 2 := ⟨gd 61 (by decide +kernel) rfl, gd 938 (by decide +kernel) rfl, ⟨by decide, by decide⟩, by decide +kernel⟩
theorem mw_X11_setWeights : MW yX11_setWeights cX11_setWeights 5 none 5 := ⟨gd 61 (by decide +kernel) rfl, gd 935 (by decide +kernel) rfl, ⟨by decide, by decide⟩, by decide +kernel⟩
theorem mw_X11_unitOf : MW yX11_unitOf cX11_unitOf 4 (some .long) 1 := ⟨gd 61 (by decide +kernel) rfl, gd 1344 (by decide +kernel) rfl, ⟨by decide, by decide⟩, by decide +kernel⟩
theorem mw_X1_addParts : MW yX1_addParts cX1_addParts 5 none 3 := ⟨gd 65 (by decide +kernel) rfl, gd 1188 (by decide +kernel) rfl, ⟨by decide, by decide⟩, by decide +kernel⟩
theorem mw_X1_at : MW yX1_at cX1_at 3 (some .long) 2 := ⟨gd 65 (by decide +kernel) rfl, gd 1201 (by decide +kernel) rfl, ⟨by decide, by decide⟩, by decide +kernel⟩
theorem mw_X1_chanceOver : MW yX1_chanceOver cX1_chanceOver 4 (some .long) 3 := ⟨gd 65 (by decide +kernel) rfl, gd 1251 (by decide +kernel) rfl, ⟨by decide, by decide⟩, by decide +kernel⟩
theorem mw_X1_fillChances : MW yX1_fillChances cX1_fillChances 6 none 0 := ⟨gd 65 (by decide +kernel) rfl, gd 1247 (by decide +kernel) rfl, ⟨by decide, by decide⟩, by decide +kernel⟩
theorem mw_X1_fillParts : MW yX1_fillParts cX1_fillParts 5 none 1 := ⟨gd 65 (by decide +kernel) rfl, gd 1180 (by decide +kernel) rfl, ⟨by decide, by decide⟩, by decide +kernel⟩
theorem mw_X1_follow : MW yX1_follow cX1_follow 5 none 3 := ⟨gd 65 (by decide +kernel) rfl, gd 1176 (by decide +kernel) rfl, ⟨by decide, by decide⟩, by decide +kernel⟩
theorem mw_X1_gainOf : MW yX1_gainOf cX1_gainOf 9 (some .long) 1 := ⟨gd 65 (by decide +kernel) rfl, gd 1322 (by decide +kernel) rfl, ⟨by decide, by decide⟩, by decide +kernel⟩
theorem mw_X1_hitOf : MW yX1_hitOf cX1_hitOf 6 (some .long) 1 := ⟨gd 65 (by decide +kernel) rfl, gd 1601 (by decide +kernel) rfl, ⟨by decide, by decide⟩, by decide +kernel⟩
theorem mw_X1_likeliestNext : MW yX1_likeliestNext cX1_likeliestNext 4 (some .int) 2 := ⟨gd 65 (by decide +kernel) rfl, gd 1258 (by decide +kernel) rfl, ⟨by decide, by decide⟩, by decide +kernel⟩
theorem mw_X1_nextStates : MW yX1_nextStates cX1_nextStates 4 (some .int) 1 := ⟨gd 65 (by decide +kernel) rfl, gd 1209 (by decide +kernel) rfl, ⟨by decide, by decide⟩, by decide +kernel⟩
theorem mw_X1_partsTo : MW yX1_partsTo cX1_partsTo 3 (some .long) 2 := ⟨gd 65 (by decide +kernel) rfl, gd 1197 (by decide +kernel) rfl, ⟨by decide, by decide⟩, by decide +kernel⟩
theorem mw_X1_rankOf : MW yX1_rankOf cX1_rankOf 8 (some .int) 1 := ⟨gd 65 (by decide +kernel) rfl, gd 1225 (by decide +kernel) rfl, ⟨by decide, by decide⟩, by decide +kernel⟩
theorem mw_X1_spread : MW yX1_spread cX1_spread 7 none 2 := ⟨gd 65 (by decide +kernel) rfl, gd 1193 (by decide +kernel) rfl, ⟨by decide, by decide⟩, by decide +kernel⟩
theorem mw_X1_stateOfLikeliest : MW yX1_stateOfLikeliest cX1_stateOfLikeliest 4 (some .int) 1 := ⟨gd 65 (by decide +kernel) rfl, gd 1243 (by decide +kernel) rfl, ⟨by decide, by decide⟩, by decide +kernel⟩
theorem mw_X1_sumOf : MW yX1_sumOf cX1_sumOf 6 (some .long) 2 := ⟨gd 65 (by decide +kernel) rfl, gd 1233 (by decide +kernel) rfl, ⟨by decide, by decide⟩, by decide +kernel⟩
theorem mw_X1_usedOf : MW yX1_usedOf cX1_usedOf 10 (some .long) 2 := ⟨gd 65 (by decide +kernel) rfl, gd 1326 (by decide +kernel) rfl, ⟨by decide, by decide⟩, by decide +kernel⟩
theorem mw_X1_visitsOf : MW yX1_visitsOf cX1_visitsOf 2 (some .long) 1 := ⟨gd 65 (by decide +kernel) rfl, gd 1229 (by decide +kernel) rfl, ⟨by decide, by decide⟩, by decide +kernel⟩
theorem mw_X2_advance : MW yX2_advance cX2_advance 1 none 0 := ⟨gd 62 (by decide +kernel) rfl, gd 948 (by decide +kernel) rfl, ⟨by decide, by decide⟩, by decide +kernel⟩
theorem mw_X2_begin : MW yX2_begin cX2_begin 2 none 1 := ⟨gd 62 (by decide +kernel) rfl, gd 943 (by decide +kernel) rfl, ⟨by decide, by decide⟩, by decide +kernel⟩
theorem mw_X2_hasRoom : MW yX2_hasRoom cX2_hasRoom 2 (some .boolean) 1 := ⟨gd 62 (by decide +kernel) rfl, gd 842 (by decide +kernel) rfl, ⟨by decide, by decide⟩, by decide +kernel⟩
theorem mw_X2_isDigit : MW yX2_isDigit cX2_isDigit 1 (some .boolean) 1 := ⟨gd 62 (by decide +kernel) rfl, gd 954 (by decide +kernel) rfl, ⟨by decide, by decide⟩, by decide +kernel⟩
theorem mw_X2_isLetter : MW yX2_isLetter cX2_isLetter 1 (some .boolean) 1 := ⟨gd 62 (by decide +kernel) rfl, gd 951 (by decide +kernel) rfl, ⟨by decide, by decide⟩, by decide +kernel⟩
theorem mw_X2_isWord : MW yX2_isWord cX2_isWord 3 (some .boolean) 1 := ⟨gd 62 (by decide +kernel) rfl, gd 967 (by decide +kernel) rfl, ⟨by decide, by decide⟩, by decide +kernel⟩
theorem mw_X2_put : MW yX2_put cX2_put 3 none 1 := ⟨gd 62 (by decide +kernel) rfl, gd 846 (by decide +kernel) rfl, ⟨by decide, by decide⟩, by decide +kernel⟩
theorem mw_X3_dropOldest : MW yX3_dropOldest cX3_dropOldest 3 none 0 := ⟨gd 67 (by decide +kernel) rfl, gd 1415 (by decide +kernel) rfl, ⟨by decide, by decide⟩, by decide +kernel⟩
theorem mw_X3_forget : MW yX3_forget cX3_forget 1 none 0 := ⟨gd 67 (by decide +kernel) rfl, gd 1086 (by decide +kernel) rfl, ⟨by decide, by decide⟩, by decide +kernel⟩
theorem mw_X3_giveBack : MW yX3_giveBack cX3_giveBack 2 none 1 := ⟨gd 67 (by decide +kernel) rfl, gd 1445 (by decide +kernel) rfl, ⟨by decide, by decide⟩, by decide +kernel⟩
theorem mw_X3_isFull : MW yX3_isFull cX3_isFull 2 (some .boolean) 1 := ⟨gd 67 (by decide +kernel) rfl, gd 1465 (by decide +kernel) rfl, ⟨by decide, by decide⟩, by decide +kernel⟩
theorem mw_X3_keep : MW yX3_keep cX3_keep 2 none 1 := ⟨gd 67 (by decide +kernel) rfl, gd 1411 (by decide +kernel) rfl, ⟨by decide, by decide⟩, by decide +kernel⟩
theorem mw_X3_put : MW yX3_put cX3_put 3 none 2 := ⟨gd 67 (by decide +kernel) rfl, gd 1457 (by decide +kernel) rfl, ⟨by decide, by decide⟩, by decide +kernel⟩
theorem mw_X3_take : MW yX3_take cX3_take 3 none 2 := ⟨gd 67 (by decide +kernel) rfl, gd 1470 (by decide +kernel) rfl, ⟨by decide, by decide⟩, by decide +kernel⟩
theorem mw_X4_checkStates : MW yX4_checkStates cX4_checkStates 2 (some .boolean) 0 := ⟨gd 66 (by decide +kernel) rfl, gd 1052 (by decide +kernel) rfl, ⟨by decide, by decide⟩, by decide +kernel⟩
theorem mw_X4_endLine : MW yX4_endLine cX4_endLine 2 (some .boolean) 1 := ⟨gd 66 (by decide +kernel) rfl, gd 1034 (by decide +kernel) rfl, ⟨by decide, by decide⟩, by decide +kernel⟩
theorem mw_X4_fail : MW yX4_fail cX4_fail 2 (some .boolean) 1 := ⟨gd 66 (by decide +kernel) rfl, gd 973 (by decide +kernel) rfl, ⟨by decide, by decide⟩, by decide +kernel⟩
theorem mw_X4_parse : MW yX4_parse cX4_parse 3 (some .boolean) 1 := ⟨gd 66 (by decide +kernel) rfl, gd 921 (by decide +kernel) rfl, ⟨by decide, by decide⟩, by decide +kernel⟩
theorem mw_X4_parseAct : MW yX4_parseAct cX4_parseAct 3 (some .boolean) 0 := ⟨gd 66 (by decide +kernel) rfl, gd 999 (by decide +kernel) rfl, ⟨by decide, by decide⟩, by decide +kernel⟩
theorem mw_X4_parseBudget : MW yX4_parseBudget cX4_parseBudget 1 (some .boolean) 0 := ⟨gd 66 (by decide +kernel) rfl, gd 994 (by decide +kernel) rfl, ⟨by decide, by decide⟩, by decide +kernel⟩
theorem mw_X4_parseGain : MW yX4_parseGain cX4_parseGain 3 (some .boolean) 1 := ⟨gd 66 (by decide +kernel) rfl, gd 1008 (by decide +kernel) rfl, ⟨by decide, by decide⟩, by decide +kernel⟩
theorem mw_X4_parseHead : MW yX4_parseHead cX4_parseHead 1 (some .boolean) 0 := ⟨gd 66 (by decide +kernel) rfl, gd 958 (by decide +kernel) rfl, ⟨by decide, by decide⟩, by decide +kernel⟩
theorem mw_X4_parseLine : MW yX4_parseLine cX4_parseLine 1 (some .boolean) 0 := ⟨gd 66 (by decide +kernel) rfl, gd 989 (by decide +kernel) rfl, ⟨by decide, by decide⟩, by decide +kernel⟩
theorem mw_X4_parsePercents : MW yX4_parsePercents cX4_parsePercents 5 (some .boolean) 1 := ⟨gd 66 (by decide +kernel) rfl, gd 1021 (by decide +kernel) rfl, ⟨by decide, by decide⟩, by decide +kernel⟩
theorem mw_X4_parseRule : MW yX4_parseRule cX4_parseRule 2 (some .boolean) 0 := ⟨gd 66 (by decide +kernel) rfl, gd 1039 (by decide +kernel) rfl, ⟨by decide, by decide⟩, by decide +kernel⟩
theorem mw_X4_parseStart : MW yX4_parseStart cX4_parseStart 1 (some .boolean) 0 := ⟨gd 66 (by decide +kernel) rfl, gd 1047 (by decide +kernel) rfl, ⟨by decide, by decide⟩, by decide +kernel⟩
theorem mw_X4_parseUses : MW yX4_parseUses cX4_parseUses 4 (some .boolean) 1 := ⟨gd 66 (by decide +kernel) rfl, gd 1012 (by decide +kernel) rfl, ⟨by decide, by decide⟩, by decide +kernel⟩
theorem mw_X4_parseWeights : MW yX4_parseWeights cX4_parseWeights 4 (some .boolean) 1 := ⟨gd 66 (by decide +kernel) rfl, gd 1043 (by decide +kernel) rfl, ⟨by decide, by decide⟩, by decide +kernel⟩
theorem mw_X4_seeNumber : MW yX4_seeNumber cX4_seeNumber 3 (some .boolean) 2 := ⟨gd 66 (by decide +kernel) rfl, gd 983 (by decide +kernel) rfl, ⟨by decide, by decide⟩, by decide +kernel⟩
theorem mw_X4_seeState : MW yX4_seeState cX4_seeState 1 (some .boolean) 0 := ⟨gd 66 (by decide +kernel) rfl, gd 1003 (by decide +kernel) rfl, ⟨by decide, by decide⟩, by decide +kernel⟩
theorem mw_X4_takeNumber : MW yX4_takeNumber cX4_takeNumber 3 (some .boolean) 2 := ⟨gd 66 (by decide +kernel) rfl, gd 979 (by decide +kernel) rfl, ⟨by decide, by decide⟩, by decide +kernel⟩
theorem mw_X4_takeWord : MW yX4_takeWord cX4_takeWord 2 (some .boolean) 1 := ⟨gd 66 (by decide +kernel) rfl, gd 963 (by decide +kernel) rfl, ⟨by decide, by decide⟩, by decide +kernel⟩
theorem mw_X5_begin : MW yX5_begin cX5_begin 1 (some .boolean) 0 := ⟨gd 69 (by decide +kernel) rfl, gd 1310 (by decide +kernel) rfl, ⟨by decide, by decide⟩, by decide +kernel⟩
theorem mw_X5_fill : MW yX5_fill cX5_fill 4 none 0 := ⟨gd 69 (by decide +kernel) rfl, gd 1306 (by decide +kernel) rfl, ⟨by decide, by decide⟩, by decide +kernel⟩
theorem mw_X5_findBest : MW yX5_findBest cX5_findBest 7 (some .long) 2 := ⟨gd 69 (by decide +kernel) rfl, gd 1302 (by decide +kernel) rfl, ⟨by decide, by decide⟩, by decide +kernel⟩
theorem mw_X5_forget : MW yX5_forget cX5_forget 1 none 0 := ⟨gd 69 (by decide +kernel) rfl, gd 1090 (by decide +kernel) rfl, ⟨by decide, by decide⟩, by decide +kernel⟩
theorem mw_X5_holds : MW yX5_holds cX5_holds 7 (some .boolean) 2 := ⟨gd 69 (by decide +kernel) rfl, gd 1341 (by decide +kernel) rfl, ⟨by decide, by decide⟩, by decide +kernel⟩
theorem mw_X5_isPermittedSet : MW yX5_isPermittedSet cX5_isPermittedSet 2 (some .boolean) 0 := ⟨gd 69 (by decide +kernel) rfl, gd 1336 (by decide +kernel) rfl, ⟨by decide, by decide⟩, by decide +kernel⟩
theorem mw_X5_moveOn : MW yX5_moveOn cX5_moveOn 2 (some .boolean) 0 := ⟨gd 69 (by decide +kernel) rfl, gd 1331 (by decide +kernel) rfl, ⟨by decide, by decide⟩, by decide +kernel⟩
theorem mw_X5_writeWeights : MW yX5_writeWeights cX5_writeWeights 4 none 2 := ⟨gd 69 (by decide +kernel) rfl, gd 1315 (by decide +kernel) rfl, ⟨by decide, by decide⟩, by decide +kernel⟩
theorem mw_X7_clear : MW yX7_clear cX7_clear 2 none 0 := ⟨gd 64 (by decide +kernel) rfl, gd 932 (by decide +kernel) rfl, ⟨by decide, by decide⟩, by decide +kernel⟩
theorem mw_X7_copyFrom : MW yX7_copyFrom cX7_copyFrom 2 none 1 := ⟨gd 64 (by decide +kernel) rfl, gd 1081 (by decide +kernel) rfl, ⟨by decide, by decide⟩, by decide +kernel⟩
theorem mw_X7_permits : MW yX7_permits cX7_permits 3 (some .boolean) 2 := ⟨gd 64 (by decide +kernel) rfl, gd 1287 (by decide +kernel) rfl, ⟨by decide, by decide⟩, by decide +kernel⟩
theorem mw_X7_walkRow : MW yX7_walkRow cX7_walkRow 2 (some .int) 1 := ⟨gd 64 (by decide +kernel) rfl, gd 1537 (by decide +kernel) rfl, ⟨by decide, by decide⟩, by decide +kernel⟩
theorem mw_X9_fill : MW yX9_fill cX9_fill 4 none 0 := ⟨gd 70 (by decide +kernel) rfl, gd 1266 (by decide +kernel) rfl, ⟨by decide, by decide⟩, by decide +kernel⟩
theorem mw_X9_firstAction : MW yX9_firstAction cX9_firstAction 9 (some .int) 2 := ⟨gd 70 (by decide +kernel) rfl, gd 1271 (by decide +kernel) rfl, ⟨by decide, by decide⟩, by decide +kernel⟩
theorem mw_X9_of : MW yX9_of cX9_of 3 (some .long) 2 := ⟨gd 70 (by decide +kernel) rfl, gd 1283 (by decide +kernel) rfl, ⟨by decide, by decide⟩, by decide +kernel⟩
theorem mw_X9_valueOver : MW yX9_valueOver cX9_valueOver 6 (some .long) 2 := ⟨gd 70 (by decide +kernel) rfl, gd 1277 (by decide +kernel) rfl, ⟨by decide, by decide⟩, by decide +kernel⟩
theorem mi_X0_amountOf : (Gd (.instanceMethod yX0_amountOf) ∧ Gd (.selects yX0_amountOf.cls yX0_amountOf yX0_amountOf)) := ⟨gd 1015 (by decide +kernel) rfl, gd 1016 (by decide +kernel) rfl⟩
theorem mi_X0_clear : (Gd (.instanceMethod yX0_clear) ∧ Gd (.selects yX0_clear.cls yX0_clear yX0_clear)) := ⟨gd 923 (by decide +kernel) rfl, gd 924 (by decide +kernel) rfl⟩
theorem mi_X0_copyFrom : (Gd (.instanceMethod yX0_copyFrom) ∧ Gd (.selects yX0_copyFrom.cls yX0_copyFrom yX0_copyFrom)) := ⟨gd 1070 (by decide +kernel) rfl, gd 1071 (by decide +kernel) rfl⟩
theorem mi_X0_countActions : (Gd (.instanceMethod yX0_countActions) ∧ Gd (.selects yX0_countActions.cls yX0_countActions yX0_countActions)) := ⟨gd 1092 (by decide +kernel) rfl, gd 1093 (by decide +kernel) rfl⟩
theorem mi_X0_percentTo : (Gd (.instanceMethod yX0_percentTo) ∧ Gd (.selects yX0_percentTo.cls yX0_percentTo yX0_percentTo)) := ⟨gd 1024 (by decide +kernel) rfl, gd 1025 (by decide +kernel) rfl⟩
theorem mi_X0_tell : (Gd (.instanceMethod yX0_tell) ∧ Gd (.selects yX0_tell.cls yX0_tell yX0_tell)) := ⟨gd 1028 (by decide +kernel) rfl, gd 1029 (by decide +kernel) rfl⟩
theorem mi_X10_draw : (Gd (.instanceMethod yX10_draw) ∧ Gd (.selects yX10_draw.cls yX10_draw yX10_draw)) := ⟨gd 1386 (by decide +kernel) rfl, gd 42 (by decide +kernel) rfl⟩
theorem mi_X10_drawAction : (Gd (.instanceMethod yX10_drawAction) ∧ Gd (.selects yX10_drawAction.cls yX10_drawAction yX10_drawAction)) := ⟨gd 1390 (by decide +kernel) rfl, gd 43 (by decide +kernel) rfl⟩
theorem mi_X10_drawNext : (Gd (.instanceMethod yX10_drawNext) ∧ Gd (.selects yX10_drawNext.cls yX10_drawNext yX10_drawNext)) := ⟨gd 1395 (by decide +kernel) rfl, gd 44 (by decide +kernel) rfl⟩
theorem mi_X10_gainOfNext : (Gd (.instanceMethod yX10_gainOfNext) ∧ Gd (.selects yX10_gainOfNext.cls yX10_gainOfNext yX10_gainOfNext)) := ⟨gd 1377 (by decide +kernel) rfl, gd 1378 (by decide +kernel) rfl⟩
theorem mi_X10_step : (Gd (.instanceMethod yX10_step) ∧ Gd (.selects yX10_step.cls yX10_step yX10_step)) := ⟨gd 1381 (by decide +kernel) rfl, gd 1382 (by decide +kernel) rfl⟩
theorem mi_X11_brokenWith : (Gd (.instanceMethod yX11_brokenWith) ∧ Gd (.selects yX11_brokenWith.cls yX11_brokenWith yX11_brokenWith)) := ⟨gd 1358 (by decide +kernel) rfl, gd 40 (by decide +kernel) rfl⟩
theorem mi_X11_followRules : (Gd (.instanceMethod yX11_followRules) ∧ Gd (.selects yX11_followRules.cls yX11_followRules yX11_followRules)) := ⟨gd 1171 (by decide +kernel) rfl, gd 25 (by decide +kernel) rfl⟩
theorem mi_X11_needAction : (Gd (.instanceMethod yX11_needAction) ∧ Gd (.selects yX11_needAction.cls yX11_needAction yX11_needAction)) := ⟨gd 1110 (by decide +kernel) rfl, gd 20 (by decide +kernel) rfl⟩
theorem mi_X11_needBudget : (Gd (.instanceMethod yX11_needBudget) ∧ Gd (.selects yX11_needBudget.cls yX11_needBudget yX11_needBudget)) := ⟨gd 1144 (by decide +kernel) rfl, gd 23 (by decide +kernel) rfl⟩
theorem mi_X11_needChain : (Gd (.instanceMethod yX11_needChain) ∧ Gd (.selects yX11_needChain.cls yX11_needChain yX11_needChain)) := ⟨gd 1118 (by decide +kernel) rfl, gd 22 (by decide +kernel) rfl⟩
theorem mi_X11_needState : (Gd (.instanceMethod yX11_needState) ∧ Gd (.selects yX11_needState.cls yX11_needState yX11_needState)) := ⟨gd 1114 (by decide +kernel) rfl, gd 21 (by decide +kernel) rfl⟩
theorem mi_X11_needTime : (Gd (.instanceMethod yX11_needTime) ∧ Gd (.selects yX11_needTime.cls yX11_needTime yX11_needTime)) := ⟨gd 1163 (by decide +kernel) rfl, gd 24 (by decide +kernel) rfl⟩
theorem mi_X11_needWalk : (Gd (.instanceMethod yX11_needWalk) ∧ Gd (.selects yX11_needWalk.cls yX11_needWalk yX11_needWalk)) := ⟨gd 1369 (by decide +kernel) rfl, gd 41 (by decide +kernel) rfl⟩
theorem mi_X1_addParts : (Gd (.instanceMethod yX1_addParts) ∧ Gd (.selects yX1_addParts.cls yX1_addParts yX1_addParts)) := ⟨gd 1187 (by decide +kernel) rfl, gd 27 (by decide +kernel) rfl⟩
theorem mi_X1_at : (Gd (.instanceMethod yX1_at) ∧ Gd (.selects yX1_at.cls yX1_at yX1_at)) := ⟨gd 1199 (by decide +kernel) rfl, gd 1200 (by decide +kernel) rfl⟩
theorem mi_X1_chanceOver : (Gd (.instanceMethod yX1_chanceOver) ∧ Gd (.selects yX1_chanceOver.cls yX1_chanceOver yX1_chanceOver)) := ⟨gd 1250 (by decide +kernel) rfl, gd 32 (by decide +kernel) rfl⟩
theorem mi_X1_fillChances : (Gd (.instanceMethod yX1_fillChances) ∧ Gd (.selects yX1_fillChances.cls yX1_fillChances yX1_fillChances)) := ⟨gd 1246 (by decide +kernel) rfl, gd 31 (by decide +kernel) rfl⟩
theorem mi_X1_fillParts : (Gd (.instanceMethod yX1_fillParts) ∧ Gd (.selects yX1_fillParts.cls yX1_fillParts yX1_fillParts)) := ⟨gd 1179 (by decide +kernel) rfl, gd 26 (by decide +kernel) rfl⟩
theorem mi_X1_follow : (Gd (.instanceMethod yX1_follow) ∧ Gd (.selects yX1_follow.cls yX1_follow yX1_follow)) := ⟨gd 1174 (by decide +kernel) rfl, gd 1175 (by decide +kernel) rfl⟩
theorem mi_X1_gainOf : (Gd (.instanceMethod yX1_gainOf) ∧ Gd (.selects yX1_gainOf.cls yX1_gainOf yX1_gainOf)) := ⟨gd 1320 (by decide +kernel) rfl, gd 1321 (by decide +kernel) rfl⟩
theorem mi_X1_hitOf : (Gd (.instanceMethod yX1_hitOf) ∧ Gd (.selects yX1_hitOf.cls yX1_hitOf yX1_hitOf)) := ⟨gd 1599 (by decide +kernel) rfl, gd 1600 (by decide +kernel) rfl⟩
theorem mi_X1_likeliestNext : (Gd (.instanceMethod yX1_likeliestNext) ∧ Gd (.selects yX1_likeliestNext.cls yX1_likeliestNext yX1_likeliestNext)) := ⟨gd 1257 (by decide +kernel) rfl, gd 33 (by decide +kernel) rfl⟩
theorem mi_X1_nextStates : (Gd (.instanceMethod yX1_nextStates) ∧ Gd (.selects yX1_nextStates.cls yX1_nextStates yX1_nextStates)) := ⟨gd 1207 (by decide +kernel) rfl, gd 1208 (by decide +kernel) rfl⟩
theorem mi_X1_partsTo : (Gd (.instanceMethod yX1_partsTo) ∧ Gd (.selects yX1_partsTo.cls yX1_partsTo yX1_partsTo)) := ⟨gd 1196 (by decide +kernel) rfl, gd 29 (by decide +kernel) rfl⟩
theorem mi_X1_rankOf : (Gd (.instanceMethod yX1_rankOf) ∧ Gd (.selects yX1_rankOf.cls yX1_rankOf yX1_rankOf)) := ⟨gd 1223 (by decide +kernel) rfl, gd 1224 (by decide +kernel) rfl⟩
theorem mi_X1_spread : (Gd (.instanceMethod yX1_spread) ∧ Gd (.selects yX1_spread.cls yX1_spread yX1_spread)) := ⟨gd 1192 (by decide +kernel) rfl, gd 28 (by decide +kernel) rfl⟩
theorem mi_X1_stateOfLikeliest : (Gd (.instanceMethod yX1_stateOfLikeliest) ∧ Gd (.selects yX1_stateOfLikeliest.cls yX1_stateOfLikeliest yX1_stateOfLikeliest)) := ⟨gd 1241 (by decide +kernel) rfl, gd 1242 (by decide +kernel) rfl⟩
theorem mi_X1_sumOf : (Gd (.instanceMethod yX1_sumOf) ∧ Gd (.selects yX1_sumOf.cls yX1_sumOf yX1_sumOf)) := ⟨gd 1232 (by decide +kernel) rfl, gd 30 (by decide +kernel) rfl⟩
theorem mi_X1_usedOf : (Gd (.instanceMethod yX1_usedOf) ∧ Gd (.selects yX1_usedOf.cls yX1_usedOf yX1_usedOf)) := ⟨gd 1324 (by decide +kernel) rfl, gd 1325 (by decide +kernel) rfl⟩
theorem mi_X1_visitsOf : (Gd (.instanceMethod yX1_visitsOf) ∧ Gd (.selects yX1_visitsOf.cls yX1_visitsOf yX1_visitsOf)) := ⟨gd 1227 (by decide +kernel) rfl, gd 1228 (by decide +kernel) rfl⟩
theorem mi_X2_advance : (Gd (.instanceMethod yX2_advance) ∧ Gd (.selects yX2_advance.cls yX2_advance yX2_advance)) := ⟨gd 946 (by decide +kernel) rfl, gd 947 (by decide +kernel) rfl⟩
theorem mi_X2_begin : (Gd (.instanceMethod yX2_begin) ∧ Gd (.selects yX2_begin.cls yX2_begin yX2_begin)) := ⟨gd 941 (by decide +kernel) rfl, gd 942 (by decide +kernel) rfl⟩
theorem mi_X2_hasRoom : (Gd (.instanceMethod yX2_hasRoom) ∧ Gd (.selects yX2_hasRoom.cls yX2_hasRoom yX2_hasRoom)) := ⟨gd 840 (by decide +kernel) rfl, gd 841 (by decide +kernel) rfl⟩
theorem mi_X2_isWord : (Gd (.instanceMethod yX2_isWord) ∧ Gd (.selects yX2_isWord.cls yX2_isWord yX2_isWord)) := ⟨gd 965 (by decide +kernel) rfl, gd 966 (by decide +kernel) rfl⟩
theorem mi_X2_put : (Gd (.instanceMethod yX2_put) ∧ Gd (.selects yX2_put.cls yX2_put yX2_put)) := ⟨gd 844 (by decide +kernel) rfl, gd 845 (by decide +kernel) rfl⟩
theorem mi_X3_dropOldest : (Gd (.instanceMethod yX3_dropOldest) ∧ Gd (.selects yX3_dropOldest.cls yX3_dropOldest yX3_dropOldest)) := ⟨gd 1414 (by decide +kernel) rfl, gd 45 (by decide +kernel) rfl⟩
theorem mi_X3_forget : (Gd (.instanceMethod yX3_forget) ∧ Gd (.selects yX3_forget.cls yX3_forget yX3_forget)) := ⟨gd 1084 (by decide +kernel) rfl, gd 1085 (by decide +kernel) rfl⟩
theorem mi_X3_giveBack : (Gd (.instanceMethod yX3_giveBack) ∧ Gd (.selects yX3_giveBack.cls yX3_giveBack yX3_giveBack)) := ⟨gd 1443 (by decide +kernel) rfl, gd 1444 (by decide +kernel) rfl⟩
theorem mi_X3_isFull : (Gd (.instanceMethod yX3_isFull) ∧ Gd (.selects yX3_isFull.cls yX3_isFull yX3_isFull)) := ⟨gd 1463 (by decide +kernel) rfl, gd 1464 (by decide +kernel) rfl⟩
theorem mi_X3_keep : (Gd (.instanceMethod yX3_keep) ∧ Gd (.selects yX3_keep.cls yX3_keep yX3_keep)) := ⟨gd 1409 (by decide +kernel) rfl, gd 1410 (by decide +kernel) rfl⟩
theorem mi_X3_put : (Gd (.instanceMethod yX3_put) ∧ Gd (.selects yX3_put.cls yX3_put yX3_put)) := ⟨gd 1455 (by decide +kernel) rfl, gd 1456 (by decide +kernel) rfl⟩
theorem mi_X3_take : (Gd (.instanceMethod yX3_take) ∧ Gd (.selects yX3_take.cls yX3_take yX3_take)) := ⟨gd 1468 (by decide +kernel) rfl, gd 1469 (by decide +kernel) rfl⟩
theorem mi_X4_checkStates : (Gd (.instanceMethod yX4_checkStates) ∧ Gd (.selects yX4_checkStates.cls yX4_checkStates yX4_checkStates)) := ⟨gd 1051 (by decide +kernel) rfl, gd 19 (by decide +kernel) rfl⟩
theorem mi_X4_endLine : (Gd (.instanceMethod yX4_endLine) ∧ Gd (.selects yX4_endLine.cls yX4_endLine yX4_endLine)) := ⟨gd 1033 (by decide +kernel) rfl, gd 15 (by decide +kernel) rfl⟩
theorem mi_X4_fail : (Gd (.instanceMethod yX4_fail) ∧ Gd (.selects yX4_fail.cls yX4_fail yX4_fail)) := ⟨gd 972 (by decide +kernel) rfl, gd 5 (by decide +kernel) rfl⟩
theorem mi_X4_parse : (Gd (.instanceMethod yX4_parse) ∧ Gd (.selects yX4_parse.cls yX4_parse yX4_parse)) := ⟨gd 919 (by decide +kernel) rfl, gd 920 (by decide +kernel) rfl⟩
theorem mi_X4_parseAct : (Gd (.instanceMethod yX4_parseAct) ∧ Gd (.selects yX4_parseAct.cls yX4_parseAct yX4_parseAct)) := ⟨gd 998 (by decide +kernel) rfl, gd 10 (by decide +kernel) rfl⟩
theorem mi_X4_parseBudget : (Gd (.instanceMethod yX4_parseBudget) ∧ Gd (.selects yX4_parseBudget.cls yX4_parseBudget yX4_parseBudget)) := ⟨gd 993 (by decide +kernel) rfl, gd 9 (by decide +kernel) rfl⟩
theorem mi_X4_parseGain : (Gd (.instanceMethod yX4_parseGain) ∧ Gd (.selects yX4_parseGain.cls yX4_parseGain yX4_parseGain)) := ⟨gd 1007 (by decide +kernel) rfl, gd 12 (by decide +kernel) rfl⟩
theorem mi_X4_parseHead : (Gd (.instanceMethod yX4_parseHead) ∧ Gd (.selects yX4_parseHead.cls yX4_parseHead yX4_parseHead)) := ⟨gd 957 (by decide +kernel) rfl, gd 3 (by decide +kernel) rfl⟩
theorem mi_X4_parseLine : (Gd (.instanceMethod yX4_parseLine) ∧ Gd (.selects yX4_parseLine.cls yX4_parseLine yX4_parseLine)) := ⟨gd 988 (by decide +kernel) rfl, gd 8 (by decide +kernel) rfl⟩
theorem mi_X4_parsePercents : (Gd (.instanceMethod yX4_parsePercents) ∧ Gd (.selects yX4_parsePercents.cls yX4_parsePercents yX4_parsePercents)) := ⟨gd 1020 (by decide +kernel) rfl, gd 14 (by decide +kernel) rfl⟩
theorem mi_X4_parseRule : (Gd (.instanceMethod yX4_parseRule) ∧ Gd (.selects yX4_parseRule.cls yX4_parseRule yX4_parseRule)) := ⟨gd 1038 (by decide +kernel) rfl, gd 16 (by decide +kernel) rfl⟩
theorem mi_X4_parseStart : (Gd (.instanceMethod yX4_parseStart) ∧ Gd (.selects yX4_parseStart.cls yX4_parseStart yX4_parseStart)) := ⟨gd 1046 (by decide +kernel) rfl, gd 18 (by decide +kernel) rfl⟩
theorem mi_X4_parseUses : (Gd (.instanceMethod yX4_parseUses) ∧ Gd (.selects yX4_parseUses.cls yX4_parseUses yX4_parseUses)) := ⟨gd 1011 (by decide +kernel) rfl, gd 13 (by decide +kernel) rfl⟩
theorem mi_X4_parseWeights : (Gd (.instanceMethod yX4_parseWeights) ∧ Gd (.selects yX4_parseWeights.cls yX4_parseWeights yX4_parseWeights)) := ⟨gd 1042 (by decide +kernel) rfl, gd 17 (by decide +kernel) rfl⟩
theorem mi_X4_seeNumber : (Gd (.instanceMethod yX4_seeNumber) ∧ Gd (.selects yX4_seeNumber.cls yX4_seeNumber yX4_seeNumber)) := ⟨gd 982 (by decide +kernel) rfl, gd 7 (by decide +kernel) rfl⟩
theorem mi_X4_seeState : (Gd (.instanceMethod yX4_seeState) ∧ Gd (.selects yX4_seeState.cls yX4_seeState yX4_seeState)) := ⟨gd 1002 (by decide +kernel) rfl, gd 11 (by decide +kernel) rfl⟩
theorem mi_X4_takeNumber : (Gd (.instanceMethod yX4_takeNumber) ∧ Gd (.selects yX4_takeNumber.cls yX4_takeNumber yX4_takeNumber)) := ⟨gd 978 (by decide +kernel) rfl, gd 6 (by decide +kernel) rfl⟩
theorem mi_X4_takeWord : (Gd (.instanceMethod yX4_takeWord) ∧ Gd (.selects yX4_takeWord.cls yX4_takeWord yX4_takeWord)) := ⟨gd 962 (by decide +kernel) rfl, gd 4 (by decide +kernel) rfl⟩
theorem mi_X5_begin : (Gd (.instanceMethod yX5_begin) ∧ Gd (.selects yX5_begin.cls yX5_begin yX5_begin)) := ⟨gd 1309 (by decide +kernel) rfl, gd 36 (by decide +kernel) rfl⟩
theorem mi_X5_fill : (Gd (.instanceMethod yX5_fill) ∧ Gd (.selects yX5_fill.cls yX5_fill yX5_fill)) := ⟨gd 1305 (by decide +kernel) rfl, gd 35 (by decide +kernel) rfl⟩
theorem mi_X5_findBest : (Gd (.instanceMethod yX5_findBest) ∧ Gd (.selects yX5_findBest.cls yX5_findBest yX5_findBest)) := ⟨gd 1300 (by decide +kernel) rfl, gd 1301 (by decide +kernel) rfl⟩
theorem mi_X5_forget : (Gd (.instanceMethod yX5_forget) ∧ Gd (.selects yX5_forget.cls yX5_forget yX5_forget)) := ⟨gd 1088 (by decide +kernel) rfl, gd 1089 (by decide +kernel) rfl⟩
theorem mi_X5_holds : (Gd (.instanceMethod yX5_holds) ∧ Gd (.selects yX5_holds.cls yX5_holds yX5_holds)) := ⟨gd 1340 (by decide +kernel) rfl, gd 39 (by decide +kernel) rfl⟩
theorem mi_X5_isPermittedSet : (Gd (.instanceMethod yX5_isPermittedSet) ∧ Gd (.selects yX5_isPermittedSet.cls yX5_isPermittedSet yX5_isPermittedSet)) := ⟨gd 1335 (by decide +kernel) rfl, gd 38 (by decide +kernel) rfl⟩
theorem mi_X5_moveOn : (Gd (.instanceMethod yX5_moveOn) ∧ Gd (.selects yX5_moveOn.cls yX5_moveOn yX5_moveOn)) := ⟨gd 1330 (by decide +kernel) rfl, gd 37 (by decide +kernel) rfl⟩
theorem mi_X5_writeWeights : (Gd (.instanceMethod yX5_writeWeights) ∧ Gd (.selects yX5_writeWeights.cls yX5_writeWeights yX5_writeWeights)) := ⟨gd 1313 (by decide +kernel) rfl, gd 1314 (by decide +kernel) rfl⟩
theorem mi_X7_clear : (Gd (.instanceMethod yX7_clear) ∧ Gd (.selects yX7_clear.cls yX7_clear yX7_clear)) := ⟨gd 930 (by decide +kernel) rfl, gd 931 (by decide +kernel) rfl⟩
theorem mi_X7_copyFrom : (Gd (.instanceMethod yX7_copyFrom) ∧ Gd (.selects yX7_copyFrom.cls yX7_copyFrom yX7_copyFrom)) := ⟨gd 1079 (by decide +kernel) rfl, gd 1080 (by decide +kernel) rfl⟩
theorem mi_X7_permits : (Gd (.instanceMethod yX7_permits) ∧ Gd (.selects yX7_permits.cls yX7_permits yX7_permits)) := ⟨gd 1285 (by decide +kernel) rfl, gd 1286 (by decide +kernel) rfl⟩
theorem mi_X7_walkRow : (Gd (.instanceMethod yX7_walkRow) ∧ Gd (.selects yX7_walkRow.cls yX7_walkRow yX7_walkRow)) := ⟨gd 1535 (by decide +kernel) rfl, gd 1536 (by decide +kernel) rfl⟩
theorem mi_X9_fill : (Gd (.instanceMethod yX9_fill) ∧ Gd (.selects yX9_fill.cls yX9_fill yX9_fill)) := ⟨gd 1264 (by decide +kernel) rfl, gd 1265 (by decide +kernel) rfl⟩
theorem mi_X9_firstAction : (Gd (.instanceMethod yX9_firstAction) ∧ Gd (.selects yX9_firstAction.cls yX9_firstAction yX9_firstAction)) := ⟨gd 1269 (by decide +kernel) rfl, gd 1270 (by decide +kernel) rfl⟩
theorem mi_X9_of : (Gd (.instanceMethod yX9_of) ∧ Gd (.selects yX9_of.cls yX9_of yX9_of)) := ⟨gd 1281 (by decide +kernel) rfl, gd 1282 (by decide +kernel) rfl⟩
theorem mi_X9_valueOver : (Gd (.instanceMethod yX9_valueOver) ∧ Gd (.selects yX9_valueOver.cls yX9_valueOver yX9_valueOver)) := ⟨gd 1276 (by decide +kernel) rfl, gd 34 (by decide +kernel) rfl⟩
theorem ms_J7_fill_53178 : Gd (.static yJ7_fill_53178) := gd 927 (by decide +kernel) rfl
theorem ms_J7_fill_d0a16 : Gd (.static yJ7_fill_d0a16) := gd 1182 (by decide +kernel) rfl
theorem ms_X11_copyRow : Gd (.static yX11_copyRow) := gd 1074 (by decide +kernel) rfl
theorem ms_X11_needRange : Gd (.static yX11_needRange) := gd 1166 (by decide +kernel) rfl
theorem ms_X11_needSlot : Gd (.static yX11_needSlot) := gd 1451 (by decide +kernel) rfl
theorem ms_X11_rowOf : Gd (.static yX11_rowOf) := gd 937 (by decide +kernel) rfl
theorem ms_X11_setWeights : Gd (.static yX11_setWeights) := gd 934 (by decide +kernel) rfl
theorem ms_X11_unitOf : Gd (.static yX11_unitOf) := gd 1343 (by decide +kernel) rfl
theorem ms_X2_isDigit : Gd (.static yX2_isDigit) := gd 953 (by decide +kernel) rfl
theorem ms_X2_isLetter : Gd (.static yX2_isLetter) := gd 950 (by decide +kernel) rfl
theorem cl_RX11_272 : Gd (.constantLong RX11 272 (-9223372036854775808 : Int64)) := gd 1348 (by decide +kernel) rfl
theorem cl_RX11_404 : Gd (.constantLong RX11 404 (10 : Int64)) := gd 1345 (by decide +kernel) rfl
theorem cl_RX11_406 : Gd (.constantLong RX11 406 (1000 : Int64)) := gd 1346 (by decide +kernel) rfl
theorem cl_RX1_76 : Gd (.constantLong RX1 76 (1000 : Int64)) := gd 1234 (by decide +kernel) rfl
theorem cl_RX5_50 : Gd (.constantLong RX5 50 (-9223372036854775808 : Int64)) := gd 1332 (by decide +kernel) rfl
theorem cl_RX9_46 : Gd (.constantLong RX9 46 (-9223372036854775808 : Int64)) := gd 1272 (by decide +kernel) rfl
theorem cl_RX9_66 : Gd (.constantLong RX9 66 (100 : Int64)) := gd 1278 (by decide +kernel) rfl
theorem th_RX11_112_116 : Gd (.classLink RX11 112 (xN 1)) ∧ Gd (.initialized (xN 1)) ∧ (∀ w ∈ vx_atS RX11 116 (xN 1) ["java/lang/RuntimeException", "java/lang/Exception"], Gd w) ∧ (∀ w ∈ Cond.classLink RX11 112 (xN 1) :: Cond.initialized (xN 1) :: vx_atS RX11 116 (xN 1) ["java/lang/RuntimeException", "java/lang/Exception"], vx_ot w = true) := by
  have h : ∀ w ∈ vx_atS RX11 116 (xN 1) ["java/lang/RuntimeException", "java/lang/Exception"], w ∈ lw_tbl ∧ okW w = true := by decide +kernel
  exact ⟨gd 851 (by decide +kernel) rfl, gd 77 (by decide +kernel) rfl, h, by decide +kernel⟩
theorem th_RX11_122_126 : Gd (.classLink RX11 122 (xN 2)) ∧ Gd (.initialized (xN 2)) ∧ (∀ w ∈ vx_atS RX11 126 (xN 2) ["java/lang/RuntimeException", "java/lang/Exception"], Gd w) ∧ (∀ w ∈ Cond.classLink RX11 122 (xN 2) :: Cond.initialized (xN 2) :: vx_atS RX11 126 (xN 2) ["java/lang/RuntimeException", "java/lang/Exception"], vx_ot w = true) := by
  have h : ∀ w ∈ vx_atS RX11 126 (xN 2) ["java/lang/RuntimeException", "java/lang/Exception"], w ∈ lw_tbl ∧ okW w = true := by decide +kernel
  exact ⟨gd 1053 (by decide +kernel) rfl, gd 78 (by decide +kernel) rfl, h, by decide +kernel⟩
theorem th_RX11_334_338 : Gd (.classLink RX11 334 (xN 0)) ∧ Gd (.initialized (xN 0)) ∧ (∀ w ∈ vx_atS RX11 338 (xN 0) ["java/lang/RuntimeException", "java/lang/Exception"], Gd w) ∧ (∀ w ∈ Cond.classLink RX11 334 (xN 0) :: Cond.initialized (xN 0) :: vx_atS RX11 338 (xN 0) ["java/lang/RuntimeException", "java/lang/Exception"], vx_ot w = true) := by
  have h : ∀ w ∈ vx_atS RX11 338 (xN 0) ["java/lang/RuntimeException", "java/lang/Exception"], w ∈ lw_tbl ∧ okW w = true := by decide +kernel
  exact ⟨gd 1120 (by decide +kernel) rfl, gd 76 (by decide +kernel) rfl, h, by decide +kernel⟩
end
section
/-! the made system: its objects by number, what their final references hold -/
def SH : List SE := [(17, 12), (8, 7), (2, 1200), (6, 8), (0, 6), (0, 18), (0, 54), (0, 108), (0, 108), (0, 18), (13, 9), (0, 18), (0, 6), (0, 3), (0, 6), (0, 5), (7, 7), (1, 36), (1, 36), (1, 36), (1, 36), (10, 7), (6, 8), (0, 6), (0, 18), (0, 54), (0, 108), (0, 108), (0, 18), (13, 9), (0, 18), (0, 6), (0, 3), (0, 6), (0, 5), (9, 4), (5, 7), (5, 2), (13, 9), (0, 18), (0, 6), (0, 3), (0, 6), (0, 5), (13, 9), (0, 18), (0, 6), (0, 3), (0, 6), (0, 5), (13, 9), (0, 18), (0, 6), (0, 3), (0, 6), (0, 5), (13, 9), (0, 18), (0, 6), (0, 3), (0, 6), (0, 5), (13, 9), (0, 18), (0, 6), (0, 3), (0, 6), (0, 5), (13, 9), (0, 18), (0, 6), (0, 3), (0, 6), (0, 5), (13, 9), (0, 18), (0, 6), (0, 3), (0, 6), (0, 5), (13, 9), (0, 18), (0, 6), (0, 3), (0, 6), (0, 5), (13, 9), (0, 18), (0, 6), (0, 3), (0, 6), (0, 5), (14, 4), (1, 2976), (1, 2976), (0, 36), (11, 11), (1, 729), (1, 2187), (0, 6), (0, 18), (0, 6), (15, 3), (1, 36), (16, 4), (12, 2), (2, 114), (0, 18)]
def srL : List (List (Option Nat)) := [[some 1, some 21, some 3, some 10, some 35, some 16, some 92, some 96, some 102, some 104, some 105, some 107], [some 2], [], [none, none, some 4, some 5, some 6, some 7, some 8, some 9], [], [], [], [], [], [], [some 11, some 12, some 13, none, none, none, none, some 14, some 15], [], [], [], [], [], [some 3, none, none, some 17, some 18, some 19, some 20], [], [], [], [], [some 22, some 29, none, none, some 1], [none, none, some 23, some 24, some 25, some 26, some 27, some 28], [], [], [], [], [], [], [some 30, some 31, some 32, none, none, none, none, some 33, some 34], [], [], [], [], [], [none, some 36, some 37], [], [], [some 39, some 40, some 41, none, none, none, none, some 42, some 43], [], [], [], [], [], [some 45, some 46, some 47, none, none, none, none, some 48, some 49], [], [], [], [], [], [some 51, some 52, some 53, none, none, none, none, some 54, some 55], [], [], [], [], [], [some 57, some 58, some 59, none, none, none, none, some 60, some 61], [], [], [], [], [], [some 63, some 64, some 65, none, none, none, none, some 66, some 67], [], [], [], [], [], [some 69, some 70, some 71, none, none, none, none, some 72, some 73], [], [], [], [], [], [some 75, some 76, some 77, none, none, none, none, some 78, some 79], [], [], [], [], [], [some 81, some 82, some 83, none, none, none, none, some 84, some 85], [], [], [], [], [], [some 87, some 88, some 89, none, none, none, none, some 90, some 91], [], [], [], [], [], [some 3, none, none, some 95], [], [], [], [some 3, some 10, some 16, some 97, some 98, none, none, none, some 99, some 100, some 101], [], [], [], [], [], [some 3, some 10, some 103], [], [some 3], [some 106], [], []]
def srT (o k : Nat) : Option Nat := (srL.getD o []).getD k none
def SRok (M : Mem) : Prop := ∀ o k j, srT o k = some j → gR M o k = some j
def STL : List (String × Nat × String × Nat) := [("DecisionChainLaw$Chain", 9, "chain states ", 10), ("DecisionChainLaw$Chain", 80, " horizon ", 11), ("DecisionChainLaw$Chain", 85, " seed ", 12), ("DecisionChainLaw$Chain", 90, ";budget ", 13), ("DecisionChainLaw$Chain", 105, ";act ", 14), ("DecisionChainLaw$Chain", 107, " -", 15), ("DecisionChainLaw$Chain", 109, " ", 16), ("DecisionChainLaw$Chain", 117, " uses ", 17), ("DecisionChainLaw$Chain", 122, " to ", 18), ("DecisionChainLaw$Chain", 124, ";rule ", 19), ("DecisionChainLaw$Chain", 103, ";start ", 20), ("DecisionChain", 114, "not so many bytes in the buffer", 21), ("DecisionChain$Parser", 89, "chain", 0), ("DecisionChain$Parser", 93, "states", 1), ("DecisionChain$Parser", 97, "horizon", 2), ("DecisionChain$Parser", 101, "seed", 3), ("DecisionChain$Parser", 105, "budget", 4), ("DecisionChain$Parser", 110, "act", 5), ("DecisionChain$Parser", 156, "uses", 6), ("DecisionChain$Parser", 164, "to", 7), ("DecisionChain$Parser", 115, "rule", 8), ("DecisionChain$Parser", 130, "start", 9), ("DecisionChain", 124, "the text has an error", 22), ("DecisionChain", 379, "no chain", 23), ("DecisionChain", 381, "no such state", 24), ("DecisionChain", 383, "no such action", 25), ("DecisionChain", 385, "no such budget", 26), ("DecisionChain", 391, "out of range", 27), ("DecisionChain", 283, "both actions are the same", 28), ("DecisionChain", 387, "no walk", 29), ("DecisionChain", 323, "no such byte", 30), ("DecisionChain", 329, "the weights do not sum to 10", 31), ("DecisionChain", 336, "no pure rule set holds the budgets", 32), ("DecisionChain", 345, "no action of the state would be permitted", 33), ("DecisionChain", 360, "nothing can be undone", 34), ("DecisionChain", 389, "no such slot", 35), ("DecisionChain", 374, "nothing is saved there", 36), ("java/util/Arrays", 337, " > ", 37)]
/-- the parser's words, by letters -/
def WL : List (List Nat) := [[99, 104, 97, 105, 110], [115, 116, 97, 116, 101, 115], [104, 111, 114, 105, 122, 111, 110], [115, 101, 101, 100], [98, 117, 100, 103, 101, 116], [97, 99, 116], [117, 115, 101, 115], [116, 111], [114, 117, 108, 101], [115, 116, 97, 114, 116], [99, 104, 97, 105, 110, 32, 115, 116, 97, 116, 101, 115, 32], [32, 104, 111, 114, 105, 122, 111, 110, 32], [32, 115, 101, 101, 100, 32], [59, 98, 117, 100, 103, 101, 116, 32], [59, 97, 99, 116, 32], [32, 45], [32], [32, 117, 115, 101, 115, 32], [32, 116, 111, 32], [59, 114, 117, 108, 101, 32], [59, 115, 116, 97, 114, 116, 32]]
def slen (t : Nat) : Int32 := nI (WL.getD t []).length
def rdS {β : Type} (t : Nat) (i : Int32) (k : Int32 → Option β) : Option β := if inB i (WL.getD t []).length = true then k (nI ((WL.getD t []).getD i.toNatClampNeg 0)) else none
def okF {β : Type} (r : UInt32) (k : Option β) : Option β := if r &&& 0x7fffffff ≤ 0x7f800000 then k else none
def sC (M : Mem) (a sp b dp n : Nat) : Mem := (fun o k => if o = b then va_cpy (gI M a) (gI M b) sp dp n k else M.1 o k, M.2.1, M.2.2)
def cpI {β : Type} (M : Mem) (a na : Nat) (sp : Int32) (b nb : Nat) (dp n : Int32) (k : Mem → Option β) : Option β :=
  if ¬ sp < 0 ∧ ¬ dp < 0 ∧ ¬ n < 0 ∧ sp.toNatClampNeg + n.toNatClampNeg ≤ na ∧ dp.toNatClampNeg + n.toNatClampNeg ≤ nb then k (sC M a sp.toNatClampNeg b dp.toNatClampNeg n.toNatClampNeg) else none
/-- the byte rows of the parser's words in the first state -/
def wBy (t j : Nat) : Int32 := nI ((WL.getD t []).getD j 0)
/-- the texts of a context -/
def HS (Γ : WC) : Prop := (∀ q ∈ STL, vk_R q.1 q.2.1 q.2.2.1 (wst Γ q.2.2.2) (wU Γ)) ∧
  vk_S 21 (WL.map List.length) (WL.map (fun l => l.map nI)) (wst Γ) (wsv Γ) (fAg Γ) (wU Γ) (wU Γ).heap ∧ va_Z "java/lang/String" "COMPACT_STRINGS" "Z" (.int 1) (fAg Γ) (wU Γ) (wU Γ).heap ∧ va_Zq "jdk/internal/util/Preconditions" "SIOOBE_FORMATTER" "Ljava/util/function/BiFunction;" (fAg Γ) (wU Γ) (wU Γ).heap
theorem HS.st {Γ : WC} (h : HS Γ) {i : Nat} {own tx : String} {k t : Nat} (hi : STL[i]? = some (own, k, tx, t)) : vk_R own k tx (wst Γ t) (wU Γ) := h.1 _ (List.mem_of_getElem? hi)
/-- a context in which the class's objects are there -/
def HN (Γ : WC) : Prop := HG Γ ∧ (∀ o e, SH[o]? = some e → On Γ o e) ∧ (∀ o k j, srT o k = some j → ∀ M, wK Γ M → gR M o k = some j) ∧ (∀ o k v, o < 108 → v < 108 → srT o k = none → ∀ M, wK Γ M → wK Γ (sR M o k (some v))) ∧ HS Γ
theorem HN.sh {Γ : WC} (h : HN Γ) {o : Nat} {e : SE} (hs : SH[o]? = some e) : On Γ o e := h.2.1 o e hs
theorem HN.sr {Γ : WC} (h : HN Γ) {o k j : Nat} (hs : srT o k = some j) : ∀ M, wK Γ M → gR M o k = some j := h.2.2.1 o k j hs
theorem HN.kr {Γ : WC} (h : HN Γ) {o k v : Nat} (ho : o < 108) (hv : v < 108) (hs : srT o k = none) : ∀ M, wK Γ M → wK Γ (sR M o k (some v)) := h.2.2.2.1 o k v ho hv hs
theorem HN.hs {Γ : WC} (h : HN Γ) : HS Γ := h.2.2.2.2
def HT (Γ : WC) : Prop := HG Γ ∧ HS Γ
theorem HN.ht {Γ : WC} (h : HN Γ) : HT Γ := ⟨h.1, h.hs⟩
theorem shlt {o : Nat} {e : SE} (h : SH[o]? = some e) : o < 108 := (List.getElem?_eq_some_iff.mp h).1
theorem HN.st {Γ : WC} (h : HN Γ) {i : Nat} {own tx : String} {k t : Nat} (hi : STL[i]? = some (own, k, tx, t)) : vk_R own k tx (wst Γ t) (wU Γ) := h.hs.st hi
theorem HN.rc {Γ : WC} (h : HN Γ) {o ci nn : Nat} (hs : SH[o]? = some (ci + 6, nn)) {q : vw_C} (hq : vwCl[ci]? = some q) : RC Γ o q.1 := ⟨ci, nn, q, h.sh hs, hq, rfl⟩
theorem x_join {τ β : Type} {R : τ → Option β} {B : (τ → Option β) → Option β} {rM : β} {P : Prop} (hf : jn R B = some rM) (S : τ → Prop) (h1 : ∀ t, R t = some rM → S t) (h2 : ∀ j : τ → Option β, (∀ t, j t = some rM → S t) → B j = some rM → P) : P := h2 R h1 hf
theorem sh0 : SH[0]? = some (17, 12) := rfl
theorem sh1 : SH[1]? = some (8, 7) := rfl
theorem sh2 : SH[2]? = some (2, 1200) := rfl
theorem sh3 : SH[3]? = some (6, 8) := rfl
theorem sh4 : SH[4]? = some (0, 6) := rfl
theorem sh5 : SH[5]? = some (0, 18) := rfl
theorem sh6 : SH[6]? = some (0, 54) := rfl
theorem sh7 : SH[7]? = some (0, 108) := rfl
theorem sh8 : SH[8]? = some (0, 108) := rfl
theorem sh9 : SH[9]? = some (0, 18) := rfl
theorem sh10 : SH[10]? = some (13, 9) := rfl
theorem sh11 : SH[11]? = some (0, 18) := rfl
theorem sh12 : SH[12]? = some (0, 6) := rfl
theorem sh13 : SH[13]? = some (0, 3) := rfl
theorem sh14 : SH[14]? = some (0, 6) := rfl
theorem sh15 : SH[15]? = some (0, 5) := rfl
theorem sh16 : SH[16]? = some (7, 7) := rfl
theorem sh17 : SH[17]? = some (1, 36) := rfl
theorem sh18 : SH[18]? = some (1, 36) := rfl
theorem sh19 : SH[19]? = some (1, 36) := rfl
theorem sh20 : SH[20]? = some (1, 36) := rfl
theorem sh21 : SH[21]? = some (10, 7) := rfl
theorem sh22 : SH[22]? = some (6, 8) := rfl
theorem sh23 : SH[23]? = some (0, 6) := rfl
theorem sh24 : SH[24]? = some (0, 18) := rfl
theorem sh25 : SH[25]? = some (0, 54) := rfl
theorem sh26 : SH[26]? = some (0, 108) := rfl
theorem sh27 : SH[27]? = some (0, 108) := rfl
theorem sh28 : SH[28]? = some (0, 18) := rfl
theorem sh29 : SH[29]? = some (13, 9) := rfl
theorem sh30 : SH[30]? = some (0, 18) := rfl
theorem sh31 : SH[31]? = some (0, 6) := rfl
theorem sh32 : SH[32]? = some (0, 3) := rfl
theorem sh33 : SH[33]? = some (0, 6) := rfl
theorem sh34 : SH[34]? = some (0, 5) := rfl
theorem sh35 : SH[35]? = some (9, 4) := rfl
theorem sh36 : SH[36]? = some (5, 7) := rfl
theorem sh37 : SH[37]? = some (5, 2) := rfl
theorem sh38 : SH[38]? = some (13, 9) := rfl
theorem sh39 : SH[39]? = some (0, 18) := rfl
theorem sh40 : SH[40]? = some (0, 6) := rfl
theorem sh41 : SH[41]? = some (0, 3) := rfl
theorem sh42 : SH[42]? = some (0, 6) := rfl
theorem sh43 : SH[43]? = some (0, 5) := rfl
theorem sh44 : SH[44]? = some (13, 9) := rfl
theorem sh45 : SH[45]? = some (0, 18) := rfl
theorem sh46 : SH[46]? = some (0, 6) := rfl
theorem sh47 : SH[47]? = some (0, 3) := rfl
theorem sh48 : SH[48]? = some (0, 6) := rfl
theorem sh49 : SH[49]? = some (0, 5) := rfl
theorem sh50 : SH[50]? = some (13, 9) := rfl
theorem sh51 : SH[51]? = some (0, 18) := rfl
theorem sh52 : SH[52]? = some (0, 6) := rfl
theorem sh53 : SH[53]? = some (0, 3) := rfl
theorem sh54 : SH[54]? = some (0, 6) := rfl
theorem sh55 : SH[55]? = some (0, 5) := rfl
theorem sh56 : SH[56]? = some (13, 9) := rfl
theorem sh57 : SH[57]? = some (0, 18) := rfl
theorem sh58 : SH[58]? = some (0, 6) := rfl
theorem sh59 : SH[59]? = some (0, 3) := rfl
theorem sh60 : SH[60]? = some (0, 6) := rfl
theorem sh61 : SH[61]? = some (0, 5) := rfl
theorem sh62 : SH[62]? = some (13, 9) := rfl
theorem sh63 : SH[63]? = some (0, 18) := rfl
theorem sh64 : SH[64]? = some (0, 6) := rfl
theorem sh65 : SH[65]? = some (0, 3) := rfl
theorem sh66 : SH[66]? = some (0, 6) := rfl
theorem sh67 : SH[67]? = some (0, 5) := rfl
theorem sh68 : SH[68]? = some (13, 9) := rfl
theorem sh69 : SH[69]? = some (0, 18) := rfl
theorem sh70 : SH[70]? = some (0, 6) := rfl
theorem sh71 : SH[71]? = some (0, 3) := rfl
theorem sh72 : SH[72]? = some (0, 6) := rfl
theorem sh73 : SH[73]? = some (0, 5) := rfl
theorem sh74 : SH[74]? = some (13, 9) := rfl
theorem sh75 : SH[75]? = some (0, 18) := rfl
theorem sh76 : SH[76]? = some (0, 6) := rfl
theorem sh77 : SH[77]? = some (0, 3) := rfl
theorem sh78 : SH[78]? = some (0, 6) := rfl
theorem sh79 : SH[79]? = some (0, 5) := rfl
theorem sh80 : SH[80]? = some (13, 9) := rfl
theorem sh81 : SH[81]? = some (0, 18) := rfl
theorem sh82 : SH[82]? = some (0, 6) := rfl
theorem sh83 : SH[83]? = some (0, 3) := rfl
theorem sh84 : SH[84]? = some (0, 6) := rfl
theorem sh85 : SH[85]? = some (0, 5) := rfl
theorem sh86 : SH[86]? = some (13, 9) := rfl
theorem sh87 : SH[87]? = some (0, 18) := rfl
theorem sh88 : SH[88]? = some (0, 6) := rfl
theorem sh89 : SH[89]? = some (0, 3) := rfl
theorem sh90 : SH[90]? = some (0, 6) := rfl
theorem sh91 : SH[91]? = some (0, 5) := rfl
theorem sh92 : SH[92]? = some (14, 4) := rfl
theorem sh93 : SH[93]? = some (1, 2976) := rfl
theorem sh94 : SH[94]? = some (1, 2976) := rfl
theorem sh95 : SH[95]? = some (0, 36) := rfl
theorem sh96 : SH[96]? = some (11, 11) := rfl
theorem sh97 : SH[97]? = some (1, 729) := rfl
theorem sh98 : SH[98]? = some (1, 2187) := rfl
theorem sh99 : SH[99]? = some (0, 6) := rfl
theorem sh100 : SH[100]? = some (0, 18) := rfl
theorem sh101 : SH[101]? = some (0, 6) := rfl
theorem sh102 : SH[102]? = some (15, 3) := rfl
theorem sh103 : SH[103]? = some (1, 36) := rfl
theorem sh104 : SH[104]? = some (16, 4) := rfl
theorem sh105 : SH[105]? = some (12, 2) := rfl
theorem sh106 : SH[106]? = some (2, 114) := rfl
theorem sh107 : SH[107]? = some (0, 18) := rfl
theorem sr0_0 : srT 0 0 = some 1 := rfl
theorem sr0_1 : srT 0 1 = some 21 := rfl
theorem sr0_2 : srT 0 2 = some 3 := rfl
theorem sr0_3 : srT 0 3 = some 10 := rfl
theorem sr0_4 : srT 0 4 = some 35 := rfl
theorem sr0_5 : srT 0 5 = some 16 := rfl
theorem sr0_6 : srT 0 6 = some 92 := rfl
theorem sr0_7 : srT 0 7 = some 96 := rfl
theorem sr0_8 : srT 0 8 = some 102 := rfl
theorem sr0_9 : srT 0 9 = some 104 := rfl
theorem sr0_10 : srT 0 10 = some 105 := rfl
theorem sr0_11 : srT 0 11 = some 107 := rfl
theorem sr1_0 : srT 1 0 = some 2 := rfl
theorem sr3_2 : srT 3 2 = some 4 := rfl
theorem sr3_3 : srT 3 3 = some 5 := rfl
theorem sr3_4 : srT 3 4 = some 6 := rfl
theorem sr3_5 : srT 3 5 = some 7 := rfl
theorem sr3_6 : srT 3 6 = some 8 := rfl
theorem sr3_7 : srT 3 7 = some 9 := rfl
theorem sr10_0 : srT 10 0 = some 11 := rfl
theorem sr10_1 : srT 10 1 = some 12 := rfl
theorem sr10_2 : srT 10 2 = some 13 := rfl
theorem sr10_7 : srT 10 7 = some 14 := rfl
theorem sr10_8 : srT 10 8 = some 15 := rfl
theorem sr16_0 : srT 16 0 = some 3 := rfl
theorem sr16_3 : srT 16 3 = some 17 := rfl
theorem sr16_4 : srT 16 4 = some 18 := rfl
theorem sr16_5 : srT 16 5 = some 19 := rfl
theorem sr16_6 : srT 16 6 = some 20 := rfl
theorem sr21_0 : srT 21 0 = some 22 := rfl
theorem sr21_1 : srT 21 1 = some 29 := rfl
theorem sr21_4 : srT 21 4 = some 1 := rfl
theorem sr22_2 : srT 22 2 = some 23 := rfl
theorem sr22_3 : srT 22 3 = some 24 := rfl
theorem sr22_4 : srT 22 4 = some 25 := rfl
theorem sr22_5 : srT 22 5 = some 26 := rfl
theorem sr22_6 : srT 22 6 = some 27 := rfl
theorem sr22_7 : srT 22 7 = some 28 := rfl
theorem sr29_0 : srT 29 0 = some 30 := rfl
theorem sr29_1 : srT 29 1 = some 31 := rfl
theorem sr29_2 : srT 29 2 = some 32 := rfl
theorem sr29_7 : srT 29 7 = some 33 := rfl
theorem sr29_8 : srT 29 8 = some 34 := rfl
theorem sr35_1 : srT 35 1 = some 36 := rfl
theorem sr35_2 : srT 35 2 = some 37 := rfl
theorem sr38_0 : srT 38 0 = some 39 := rfl
theorem sr38_1 : srT 38 1 = some 40 := rfl
theorem sr38_2 : srT 38 2 = some 41 := rfl
theorem sr38_7 : srT 38 7 = some 42 := rfl
theorem sr38_8 : srT 38 8 = some 43 := rfl
theorem sr44_0 : srT 44 0 = some 45 := rfl
theorem sr44_1 : srT 44 1 = some 46 := rfl
theorem sr44_2 : srT 44 2 = some 47 := rfl
theorem sr44_7 : srT 44 7 = some 48 := rfl
theorem sr44_8 : srT 44 8 = some 49 := rfl
theorem sr50_0 : srT 50 0 = some 51 := rfl
theorem sr50_1 : srT 50 1 = some 52 := rfl
theorem sr50_2 : srT 50 2 = some 53 := rfl
theorem sr50_7 : srT 50 7 = some 54 := rfl
theorem sr50_8 : srT 50 8 = some 55 := rfl
theorem sr56_0 : srT 56 0 = some 57 := rfl
theorem sr56_1 : srT 56 1 = some 58 := rfl
theorem sr56_2 : srT 56 2 = some 59 := rfl
theorem sr56_7 : srT 56 7 = some 60 := rfl
theorem sr56_8 : srT 56 8 = some 61 := rfl
theorem sr62_0 : srT 62 0 = some 63 := rfl
theorem sr62_1 : srT 62 1 = some 64 := rfl
theorem sr62_2 : srT 62 2 = some 65 := rfl
theorem sr62_7 : srT 62 7 = some 66 := rfl
theorem sr62_8 : srT 62 8 = some 67 := rfl
theorem sr68_0 : srT 68 0 = some 69 := rfl
theorem sr68_1 : srT 68 1 = some 70 := rfl
theorem sr68_2 : srT 68 2 = some 71 := rfl
theorem sr68_7 : srT 68 7 = some 72 := rfl
theorem sr68_8 : srT 68 8 = some 73 := rfl
theorem sr74_0 : srT 74 0 = some 75 := rfl
theorem sr74_1 : srT 74 1 = some 76 := rfl
theorem sr74_2 : srT 74 2 = some 77 := rfl
theorem sr74_7 : srT 74 7 = some 78 := rfl
theorem sr74_8 : srT 74 8 = some 79 := rfl
theorem sr80_0 : srT 80 0 = some 81 := rfl
theorem sr80_1 : srT 80 1 = some 82 := rfl
theorem sr80_2 : srT 80 2 = some 83 := rfl
theorem sr80_7 : srT 80 7 = some 84 := rfl
theorem sr80_8 : srT 80 8 = some 85 := rfl
theorem sr86_0 : srT 86 0 = some 87 := rfl
theorem sr86_1 : srT 86 1 = some 88 := rfl
theorem sr86_2 : srT 86 2 = some 89 := rfl
theorem sr86_7 : srT 86 7 = some 90 := rfl
theorem sr86_8 : srT 86 8 = some 91 := rfl
theorem sr92_0 : srT 92 0 = some 3 := rfl
theorem sr92_3 : srT 92 3 = some 95 := rfl
theorem sr96_0 : srT 96 0 = some 3 := rfl
theorem sr96_1 : srT 96 1 = some 10 := rfl
theorem sr96_2 : srT 96 2 = some 16 := rfl
theorem sr96_3 : srT 96 3 = some 97 := rfl
theorem sr96_4 : srT 96 4 = some 98 := rfl
theorem sr96_8 : srT 96 8 = some 99 := rfl
theorem sr96_9 : srT 96 9 = some 100 := rfl
theorem sr96_10 : srT 96 10 = some 101 := rfl
theorem sr102_0 : srT 102 0 = some 3 := rfl
theorem sr102_1 : srT 102 1 = some 10 := rfl
theorem sr102_2 : srT 102 2 = some 103 := rfl
theorem sr104_0 : srT 104 0 = some 3 := rfl
theorem sr105_0 : srT 105 0 = some 106 := rfl
theorem sh_7_0 {o : Nat} (h : SH[o]? = some (13, 9)) : SH[o + 1]? = some (0, 18) := by
  have ho : o < 108 := (List.getElem?_eq_some_iff.mp h).1
  have key : ∀ o, o < 108 → SH[o]? = some (13, 9) → SH[o + 1]? = some (0, 18) := by decide +kernel
  exact key o ho h
theorem sr_7_0 {o : Nat} (h : SH[o]? = some (13, 9)) : srT o 0 = some (o + 1) := by
  have ho : o < 108 := (List.getElem?_eq_some_iff.mp h).1
  have key : ∀ o, o < 108 → SH[o]? = some (13, 9) → srT o 0 = some (o + 1) := by decide +kernel
  exact key o ho h
theorem sh_7_1 {o : Nat} (h : SH[o]? = some (13, 9)) : SH[o + 2]? = some (0, 6) := by
  have ho : o < 108 := (List.getElem?_eq_some_iff.mp h).1
  have key : ∀ o, o < 108 → SH[o]? = some (13, 9) → SH[o + 2]? = some (0, 6) := by decide +kernel
  exact key o ho h
theorem sr_7_1 {o : Nat} (h : SH[o]? = some (13, 9)) : srT o 1 = some (o + 2) := by
  have ho : o < 108 := (List.getElem?_eq_some_iff.mp h).1
  have key : ∀ o, o < 108 → SH[o]? = some (13, 9) → srT o 1 = some (o + 2) := by decide +kernel
  exact key o ho h
theorem sh_7_2 {o : Nat} (h : SH[o]? = some (13, 9)) : SH[o + 3]? = some (0, 3) := by
  have ho : o < 108 := (List.getElem?_eq_some_iff.mp h).1
  have key : ∀ o, o < 108 → SH[o]? = some (13, 9) → SH[o + 3]? = some (0, 3) := by decide +kernel
  exact key o ho h
theorem sr_7_2 {o : Nat} (h : SH[o]? = some (13, 9)) : srT o 2 = some (o + 3) := by
  have ho : o < 108 := (List.getElem?_eq_some_iff.mp h).1
  have key : ∀ o, o < 108 → SH[o]? = some (13, 9) → srT o 2 = some (o + 3) := by decide +kernel
  exact key o ho h
theorem sh_7_7 {o : Nat} (h : SH[o]? = some (13, 9)) : SH[o + 4]? = some (0, 6) := by
  have ho : o < 108 := (List.getElem?_eq_some_iff.mp h).1
  have key : ∀ o, o < 108 → SH[o]? = some (13, 9) → SH[o + 4]? = some (0, 6) := by decide +kernel
  exact key o ho h
theorem sr_7_7 {o : Nat} (h : SH[o]? = some (13, 9)) : srT o 7 = some (o + 4) := by
  have ho : o < 108 := (List.getElem?_eq_some_iff.mp h).1
  have key : ∀ o, o < 108 → SH[o]? = some (13, 9) → srT o 7 = some (o + 4) := by decide +kernel
  exact key o ho h
theorem sh_7_8 {o : Nat} (h : SH[o]? = some (13, 9)) : SH[o + 5]? = some (0, 5) := by
  have ho : o < 108 := (List.getElem?_eq_some_iff.mp h).1
  have key : ∀ o, o < 108 → SH[o]? = some (13, 9) → SH[o + 5]? = some (0, 5) := by decide +kernel
  exact key o ho h
theorem sr_7_8 {o : Nat} (h : SH[o]? = some (13, 9)) : srT o 8 = some (o + 5) := by
  have ho : o < 108 := (List.getElem?_eq_some_iff.mp h).1
  have key : ∀ o, o < 108 → SH[o]? = some (13, 9) → srT o 8 = some (o + 5) := by decide +kernel
  exact key o ho h
theorem sh_0_2 {o : Nat} (h : SH[o]? = some (6, 8)) : SH[o + 1]? = some (0, 6) := by
  have ho : o < 108 := (List.getElem?_eq_some_iff.mp h).1
  have key : ∀ o, o < 108 → SH[o]? = some (6, 8) → SH[o + 1]? = some (0, 6) := by decide +kernel
  exact key o ho h
theorem sr_0_2 {o : Nat} (h : SH[o]? = some (6, 8)) : srT o 2 = some (o + 1) := by
  have ho : o < 108 := (List.getElem?_eq_some_iff.mp h).1
  have key : ∀ o, o < 108 → SH[o]? = some (6, 8) → srT o 2 = some (o + 1) := by decide +kernel
  exact key o ho h
theorem sh_0_3 {o : Nat} (h : SH[o]? = some (6, 8)) : SH[o + 2]? = some (0, 18) := by
  have ho : o < 108 := (List.getElem?_eq_some_iff.mp h).1
  have key : ∀ o, o < 108 → SH[o]? = some (6, 8) → SH[o + 2]? = some (0, 18) := by decide +kernel
  exact key o ho h
theorem sr_0_3 {o : Nat} (h : SH[o]? = some (6, 8)) : srT o 3 = some (o + 2) := by
  have ho : o < 108 := (List.getElem?_eq_some_iff.mp h).1
  have key : ∀ o, o < 108 → SH[o]? = some (6, 8) → srT o 3 = some (o + 2) := by decide +kernel
  exact key o ho h
theorem sh_0_4 {o : Nat} (h : SH[o]? = some (6, 8)) : SH[o + 3]? = some (0, 54) := by
  have ho : o < 108 := (List.getElem?_eq_some_iff.mp h).1
  have key : ∀ o, o < 108 → SH[o]? = some (6, 8) → SH[o + 3]? = some (0, 54) := by decide +kernel
  exact key o ho h
theorem sr_0_4 {o : Nat} (h : SH[o]? = some (6, 8)) : srT o 4 = some (o + 3) := by
  have ho : o < 108 := (List.getElem?_eq_some_iff.mp h).1
  have key : ∀ o, o < 108 → SH[o]? = some (6, 8) → srT o 4 = some (o + 3) := by decide +kernel
  exact key o ho h
theorem sh_0_5 {o : Nat} (h : SH[o]? = some (6, 8)) : SH[o + 4]? = some (0, 108) := by
  have ho : o < 108 := (List.getElem?_eq_some_iff.mp h).1
  have key : ∀ o, o < 108 → SH[o]? = some (6, 8) → SH[o + 4]? = some (0, 108) := by decide +kernel
  exact key o ho h
theorem sr_0_5 {o : Nat} (h : SH[o]? = some (6, 8)) : srT o 5 = some (o + 4) := by
  have ho : o < 108 := (List.getElem?_eq_some_iff.mp h).1
  have key : ∀ o, o < 108 → SH[o]? = some (6, 8) → srT o 5 = some (o + 4) := by decide +kernel
  exact key o ho h
theorem sh_0_6 {o : Nat} (h : SH[o]? = some (6, 8)) : SH[o + 5]? = some (0, 108) := by
  have ho : o < 108 := (List.getElem?_eq_some_iff.mp h).1
  have key : ∀ o, o < 108 → SH[o]? = some (6, 8) → SH[o + 5]? = some (0, 108) := by decide +kernel
  exact key o ho h
theorem sr_0_6 {o : Nat} (h : SH[o]? = some (6, 8)) : srT o 6 = some (o + 5) := by
  have ho : o < 108 := (List.getElem?_eq_some_iff.mp h).1
  have key : ∀ o, o < 108 → SH[o]? = some (6, 8) → srT o 6 = some (o + 5) := by decide +kernel
  exact key o ho h
theorem sh_0_7 {o : Nat} (h : SH[o]? = some (6, 8)) : SH[o + 6]? = some (0, 18) := by
  have ho : o < 108 := (List.getElem?_eq_some_iff.mp h).1
  have key : ∀ o, o < 108 → SH[o]? = some (6, 8) → SH[o + 6]? = some (0, 18) := by decide +kernel
  exact key o ho h
theorem sr_0_7 {o : Nat} (h : SH[o]? = some (6, 8)) : srT o 7 = some (o + 6) := by
  have ho : o < 108 := (List.getElem?_eq_some_iff.mp h).1
  have key : ∀ o, o < 108 → SH[o]? = some (6, 8) → srT o 7 = some (o + 6) := by decide +kernel
  exact key o ho h
end
section
theorem mw_J5_init_d00df : MW yJ5_init_d00df cJ5_init_d00df 2 none 1 := ⟨gd 49 (by decide +kernel) rfl, gd 1649 (by decide +kernel) rfl, ⟨by decide, by decide⟩, by decide +kernel⟩
theorem mn_J5_init_d00df : Gd (.instanceMethod yJ5_init_d00df) := gd 1648 (by decide +kernel) rfl
theorem dj_J5_init_d00df_0 : decode cJ5_init_d00df 0 = .ok (.aload_n 0, 1) := dkAt dk_J5_init_d00df 0 rfl
theorem dj_J5_init_d00df_1 : decode cJ5_init_d00df 1 = .ok (.invokespecial 3, 3) := dkAt dk_J5_init_d00df 1 rfl
theorem dj_J5_init_d00df_4 : decode cJ5_init_d00df 4 = .ok (.getstatic 18, 3) := dkAt dk_J5_init_d00df 2 rfl
theorem dj_J5_init_d00df_7 : decode cJ5_init_d00df 7 = .ok (.ifCond .eq 18, 3) := dkAt dk_J5_init_d00df 3 rfl
theorem dj_J5_init_d00df_10 : decode cJ5_init_d00df 10 = .ok (.aload_n 0, 1) := dkAt dk_J5_init_d00df 4 rfl
theorem dj_J5_init_d00df_11 : decode cJ5_init_d00df 11 = .ok (.iload_n 1, 1) := dkAt dk_J5_init_d00df 5 rfl
theorem dj_J5_init_d00df_12 : decode cJ5_init_d00df 12 = .ok (.newarray .byte, 2) := dkAt dk_J5_init_d00df 6 rfl
theorem dj_J5_init_d00df_14 : decode cJ5_init_d00df 14 = .ok (.putfield 15, 3) := dkAt dk_J5_init_d00df 7 rfl
theorem dj_J5_init_d00df_17 : decode cJ5_init_d00df 17 = .ok (.aload_n 0, 1) := dkAt dk_J5_init_d00df 8 rfl
theorem dj_J5_init_d00df_18 : decode cJ5_init_d00df 18 = .ok (.iconst 0, 1) := dkAt dk_J5_init_d00df 9 rfl
theorem dj_J5_init_d00df_19 : decode cJ5_init_d00df 19 = .ok (.putfield 22, 3) := dkAt dk_J5_init_d00df 10 rfl
theorem dj_J5_init_d00df_22 : decode cJ5_init_d00df 22 = .ok (.goto 16, 3) := dkAt dk_J5_init_d00df 11 rfl
theorem dj_J5_init_d00df_25 : decode cJ5_init_d00df 25 = .ok (.aload_n 0, 1) := dkAt dk_J5_init_d00df 12 rfl
theorem dj_J5_init_d00df_26 : decode cJ5_init_d00df 26 = .ok (.iload_n 1, 1) := dkAt dk_J5_init_d00df 13 rfl
theorem dj_J5_init_d00df_27 : decode cJ5_init_d00df 27 = .ok (.invokestatic 26, 3) := dkAt dk_J5_init_d00df 14 rfl
theorem dj_J5_init_d00df_30 : decode cJ5_init_d00df 30 = .ok (.putfield 15, 3) := dkAt dk_J5_init_d00df 15 rfl
theorem dj_J5_init_d00df_33 : decode cJ5_init_d00df 33 = .ok (.aload_n 0, 1) := dkAt dk_J5_init_d00df 16 rfl
theorem dj_J5_init_d00df_34 : decode cJ5_init_d00df 34 = .ok (.iconst 1, 1) := dkAt dk_J5_init_d00df 17 rfl
theorem dj_J5_init_d00df_35 : decode cJ5_init_d00df 35 = .ok (.putfield 22, 3) := dkAt dk_J5_init_d00df 18 rfl
theorem dj_J5_init_d00df_38 : decode cJ5_init_d00df 38 = .ok (.return_, 1) := dkAt dk_J5_init_d00df 19 rfl
theorem mw_J5_init_a7421 : MW yJ5_init_a7421 cJ5_init_a7421 5 none 1 := ⟨gd 49 (by decide +kernel) rfl, gd 499 (by decide +kernel) rfl, ⟨by decide, by decide⟩, by decide +kernel⟩
theorem mn_J5_init_a7421 : Gd (.instanceMethod yJ5_init_a7421) := gd 498 (by decide +kernel) rfl
theorem dj_J5_init_a7421_0 : decode cJ5_init_a7421 0 = .ok (.aload_n 0, 1) := dkAt dk_J5_init_a7421 0 rfl
theorem dj_J5_init_a7421_1 : decode cJ5_init_a7421 1 = .ok (.invokespecial 3, 3) := dkAt dk_J5_init_a7421 1 rfl
theorem dj_J5_init_a7421_4 : decode cJ5_init_a7421 4 = .ok (.aload_n 1, 1) := dkAt dk_J5_init_a7421 2 rfl
theorem dj_J5_init_a7421_5 : decode cJ5_init_a7421 5 = .ok (.invokevirtual 32, 3) := dkAt dk_J5_init_a7421 3 rfl
theorem dj_J5_init_a7421_8 : decode cJ5_init_a7421 8 = .ok (.istore_n 2, 1) := dkAt dk_J5_init_a7421 4 rfl
theorem dj_J5_init_a7421_9 : decode cJ5_init_a7421 9 = .ok (.iload_n 2, 1) := dkAt dk_J5_init_a7421 5 rfl
theorem dj_J5_init_a7421_10 : decode cJ5_init_a7421 10 = .ok (.ldc 38, 2) := dkAt dk_J5_init_a7421 6 rfl
theorem dj_J5_init_a7421_12 : decode cJ5_init_a7421 12 = .ok (.if_icmp .ge 10, 3) := dkAt dk_J5_init_a7421 7 rfl
theorem dj_J5_init_a7421_15 : decode cJ5_init_a7421 15 = .ok (.iload_n 2, 1) := dkAt dk_J5_init_a7421 8 rfl
theorem dj_J5_init_a7421_16 : decode cJ5_init_a7421 16 = .ok (.bipush 16, 2) := dkAt dk_J5_init_a7421 9 rfl
theorem dj_J5_init_a7421_18 : decode cJ5_init_a7421 18 = .ok (.iadd, 1) := dkAt dk_J5_init_a7421 10 rfl
theorem dj_J5_init_a7421_19 : decode cJ5_init_a7421 19 = .ok (.goto 5, 3) := dkAt dk_J5_init_a7421 11 rfl
theorem dj_J5_init_a7421_22 : decode cJ5_init_a7421 22 = .ok (.ldc 39, 2) := dkAt dk_J5_init_a7421 12 rfl
theorem dj_J5_init_a7421_24 : decode cJ5_init_a7421 24 = .ok (.istore_n 3, 1) := dkAt dk_J5_init_a7421 13 rfl
theorem dj_J5_init_a7421_25 : decode cJ5_init_a7421 25 = .ok (.aload_n 1, 1) := dkAt dk_J5_init_a7421 14 rfl
theorem dj_J5_init_a7421_26 : decode cJ5_init_a7421 26 = .ok (.invokevirtual 40, 3) := dkAt dk_J5_init_a7421 15 rfl
theorem dj_J5_init_a7421_29 : decode cJ5_init_a7421 29 = .ok (.istore 4, 2) := dkAt dk_J5_init_a7421 16 rfl
theorem dj_J5_init_a7421_31 : decode cJ5_init_a7421 31 = .ok (.aload_n 0, 1) := dkAt dk_J5_init_a7421 17 rfl
theorem dj_J5_init_a7421_32 : decode cJ5_init_a7421 32 = .ok (.iload 4, 2) := dkAt dk_J5_init_a7421 18 rfl
theorem dj_J5_init_a7421_34 : decode cJ5_init_a7421 34 = .ok (.putfield 22, 3) := dkAt dk_J5_init_a7421 19 rfl
theorem dj_J5_init_a7421_37 : decode cJ5_init_a7421 37 = .ok (.aload_n 0, 1) := dkAt dk_J5_init_a7421 20 rfl
theorem dj_J5_init_a7421_38 : decode cJ5_init_a7421 38 = .ok (.iload 4, 2) := dkAt dk_J5_init_a7421 21 rfl
theorem dj_J5_init_a7421_40 : decode cJ5_init_a7421 40 = .ok (.ifCond .ne 9, 3) := dkAt dk_J5_init_a7421 22 rfl
theorem dj_J5_init_a7421_43 : decode cJ5_init_a7421 43 = .ok (.iload_n 3, 1) := dkAt dk_J5_init_a7421 23 rfl
theorem dj_J5_init_a7421_44 : decode cJ5_init_a7421 44 = .ok (.newarray .byte, 2) := dkAt dk_J5_init_a7421 24 rfl
theorem dj_J5_init_a7421_46 : decode cJ5_init_a7421 46 = .ok (.goto 7, 3) := dkAt dk_J5_init_a7421 25 rfl
theorem dj_J5_init_a7421_49 : decode cJ5_init_a7421 49 = .ok (.iload_n 3, 1) := dkAt dk_J5_init_a7421 26 rfl
theorem dj_J5_init_a7421_50 : decode cJ5_init_a7421 50 = .ok (.invokestatic 26, 3) := dkAt dk_J5_init_a7421 27 rfl
theorem dj_J5_init_a7421_53 : decode cJ5_init_a7421 53 = .ok (.putfield 15, 3) := dkAt dk_J5_init_a7421 28 rfl
theorem dj_J5_init_a7421_56 : decode cJ5_init_a7421 56 = .ok (.aload_n 0, 1) := dkAt dk_J5_init_a7421 29 rfl
theorem dj_J5_init_a7421_57 : decode cJ5_init_a7421 57 = .ok (.aload_n 1, 1) := dkAt dk_J5_init_a7421 30 rfl
theorem dj_J5_init_a7421_58 : decode cJ5_init_a7421 58 = .ok (.invokevirtual 43, 3) := dkAt dk_J5_init_a7421 31 rfl
theorem dj_J5_init_a7421_61 : decode cJ5_init_a7421 61 = .ok (.pop, 1) := dkAt dk_J5_init_a7421 32 rfl
theorem dj_J5_init_a7421_62 : decode cJ5_init_a7421 62 = .ok (.return_, 1) := dkAt dk_J5_init_a7421 33 rfl
theorem mw_J5_length_8abf5 : MW yJ5_length_8abf5 cJ5_length_8abf5 1 (some .int) 0 := ⟨gd 49 (by decide +kernel) rfl, gd 1631 (by decide +kernel) rfl, ⟨by decide, by decide⟩, by decide +kernel⟩
theorem mn_J5_length_8abf5 : Gd (.instanceMethod yJ5_length_8abf5) := gd 1625 (by decide +kernel) rfl
theorem dj_J5_length_8abf5_0 : decode cJ5_length_8abf5 0 = .ok (.aload_n 0, 1) := dkAt dk_J5_length_8abf5 0 rfl
theorem dj_J5_length_8abf5_1 : decode cJ5_length_8abf5 1 = .ok (.getfield 79, 3) := dkAt dk_J5_length_8abf5 1 rfl
theorem dj_J5_length_8abf5_4 : decode cJ5_length_8abf5 4 = .ok (.ireturn, 1) := dkAt dk_J5_length_8abf5 2 rfl
theorem mw_J5_ensureCapacityInternal_d00df : MW yJ5_ensureCapacityInternal_d00df cJ5_ensureCapacityInternal_d00df 3 none 1 := ⟨gd 49 (by decide +kernel) rfl, gd 541 (by decide +kernel) rfl, ⟨by decide, by decide⟩, by decide +kernel⟩
theorem mn_J5_ensureCapacityInternal_d00df : Gd (.instanceMethod yJ5_ensureCapacityInternal_d00df) := gd 540 (by decide +kernel) rfl
theorem dj_J5_ensureCapacityInternal_d00df_0 : decode cJ5_ensureCapacityInternal_d00df 0 = .ok (.aload_n 0, 1) := dkAt dk_J5_ensureCapacityInternal_d00df 0 rfl
theorem dj_J5_ensureCapacityInternal_d00df_1 : decode cJ5_ensureCapacityInternal_d00df 1 = .ok (.getfield 15, 3) := dkAt dk_J5_ensureCapacityInternal_d00df 1 rfl
theorem dj_J5_ensureCapacityInternal_d00df_4 : decode cJ5_ensureCapacityInternal_d00df 4 = .ok (.arraylength, 1) := dkAt dk_J5_ensureCapacityInternal_d00df 2 rfl
theorem dj_J5_ensureCapacityInternal_d00df_5 : decode cJ5_ensureCapacityInternal_d00df 5 = .ok (.aload_n 0, 1) := dkAt dk_J5_ensureCapacityInternal_d00df 3 rfl
theorem dj_J5_ensureCapacityInternal_d00df_6 : decode cJ5_ensureCapacityInternal_d00df 6 = .ok (.getfield 22, 3) := dkAt dk_J5_ensureCapacityInternal_d00df 4 rfl
theorem dj_J5_ensureCapacityInternal_d00df_9 : decode cJ5_ensureCapacityInternal_d00df 9 = .ok (.ishr, 1) := dkAt dk_J5_ensureCapacityInternal_d00df 5 rfl
theorem dj_J5_ensureCapacityInternal_d00df_10 : decode cJ5_ensureCapacityInternal_d00df 10 = .ok (.istore_n 2, 1) := dkAt dk_J5_ensureCapacityInternal_d00df 6 rfl
theorem dj_J5_ensureCapacityInternal_d00df_11 : decode cJ5_ensureCapacityInternal_d00df 11 = .ok (.iload_n 1, 1) := dkAt dk_J5_ensureCapacityInternal_d00df 7 rfl
theorem dj_J5_ensureCapacityInternal_d00df_12 : decode cJ5_ensureCapacityInternal_d00df 12 = .ok (.iload_n 2, 1) := dkAt dk_J5_ensureCapacityInternal_d00df 8 rfl
theorem dj_J5_ensureCapacityInternal_d00df_13 : decode cJ5_ensureCapacityInternal_d00df 13 = .ok (.isub, 1) := dkAt dk_J5_ensureCapacityInternal_d00df 9 rfl
theorem dj_J5_ensureCapacityInternal_d00df_14 : decode cJ5_ensureCapacityInternal_d00df 14 = .ok (.ifCond .le 24, 3) := dkAt dk_J5_ensureCapacityInternal_d00df 10 rfl
theorem dj_J5_ensureCapacityInternal_d00df_17 : decode cJ5_ensureCapacityInternal_d00df 17 = .ok (.aload_n 0, 1) := dkAt dk_J5_ensureCapacityInternal_d00df 11 rfl
theorem dj_J5_ensureCapacityInternal_d00df_18 : decode cJ5_ensureCapacityInternal_d00df 18 = .ok (.aload_n 0, 1) := dkAt dk_J5_ensureCapacityInternal_d00df 12 rfl
theorem dj_J5_ensureCapacityInternal_d00df_19 : decode cJ5_ensureCapacityInternal_d00df 19 = .ok (.getfield 15, 3) := dkAt dk_J5_ensureCapacityInternal_d00df 13 rfl
theorem dj_J5_ensureCapacityInternal_d00df_22 : decode cJ5_ensureCapacityInternal_d00df 22 = .ok (.aload_n 0, 1) := dkAt dk_J5_ensureCapacityInternal_d00df 14 rfl
theorem dj_J5_ensureCapacityInternal_d00df_23 : decode cJ5_ensureCapacityInternal_d00df 23 = .ok (.iload_n 1, 1) := dkAt dk_J5_ensureCapacityInternal_d00df 15 rfl
theorem dj_J5_ensureCapacityInternal_d00df_24 : decode cJ5_ensureCapacityInternal_d00df 24 = .ok (.invokevirtual 104, 3) := dkAt dk_J5_ensureCapacityInternal_d00df 16 rfl
theorem dj_J5_ensureCapacityInternal_d00df_27 : decode cJ5_ensureCapacityInternal_d00df 27 = .ok (.aload_n 0, 1) := dkAt dk_J5_ensureCapacityInternal_d00df 17 rfl
theorem dj_J5_ensureCapacityInternal_d00df_28 : decode cJ5_ensureCapacityInternal_d00df 28 = .ok (.getfield 22, 3) := dkAt dk_J5_ensureCapacityInternal_d00df 18 rfl
theorem dj_J5_ensureCapacityInternal_d00df_31 : decode cJ5_ensureCapacityInternal_d00df 31 = .ok (.ishl, 1) := dkAt dk_J5_ensureCapacityInternal_d00df 19 rfl
theorem dj_J5_ensureCapacityInternal_d00df_32 : decode cJ5_ensureCapacityInternal_d00df 32 = .ok (.invokestatic 108, 3) := dkAt dk_J5_ensureCapacityInternal_d00df 20 rfl
theorem dj_J5_ensureCapacityInternal_d00df_35 : decode cJ5_ensureCapacityInternal_d00df 35 = .ok (.putfield 15, 3) := dkAt dk_J5_ensureCapacityInternal_d00df 21 rfl
theorem dj_J5_ensureCapacityInternal_d00df_38 : decode cJ5_ensureCapacityInternal_d00df 38 = .ok (.return_, 1) := dkAt dk_J5_ensureCapacityInternal_d00df 22 rfl
theorem mw_J5_newCapacity_0f7a4 : MW yJ5_newCapacity_0f7a4 cJ5_newCapacity_0f7a4 6 (some .int) 1 := ⟨gd 49 (by decide +kernel) rfl, gd 545 (by decide +kernel) rfl, ⟨by decide, by decide⟩, by decide +kernel⟩
theorem mn_J5_newCapacity_0f7a4 : Gd (.instanceMethod yJ5_newCapacity_0f7a4) := gd 544 (by decide +kernel) rfl
theorem dj_J5_newCapacity_0f7a4_0 : decode cJ5_newCapacity_0f7a4 0 = .ok (.aload_n 0, 1) := dkAt dk_J5_newCapacity_0f7a4 0 rfl
theorem dj_J5_newCapacity_0f7a4_1 : decode cJ5_newCapacity_0f7a4 1 = .ok (.getfield 15, 3) := dkAt dk_J5_newCapacity_0f7a4 1 rfl
theorem dj_J5_newCapacity_0f7a4_4 : decode cJ5_newCapacity_0f7a4 4 = .ok (.arraylength, 1) := dkAt dk_J5_newCapacity_0f7a4 2 rfl
theorem dj_J5_newCapacity_0f7a4_5 : decode cJ5_newCapacity_0f7a4 5 = .ok (.istore_n 2, 1) := dkAt dk_J5_newCapacity_0f7a4 3 rfl
theorem dj_J5_newCapacity_0f7a4_6 : decode cJ5_newCapacity_0f7a4 6 = .ok (.iload_n 1, 1) := dkAt dk_J5_newCapacity_0f7a4 4 rfl
theorem dj_J5_newCapacity_0f7a4_7 : decode cJ5_newCapacity_0f7a4 7 = .ok (.aload_n 0, 1) := dkAt dk_J5_newCapacity_0f7a4 5 rfl
theorem dj_J5_newCapacity_0f7a4_8 : decode cJ5_newCapacity_0f7a4 8 = .ok (.getfield 22, 3) := dkAt dk_J5_newCapacity_0f7a4 6 rfl
theorem dj_J5_newCapacity_0f7a4_11 : decode cJ5_newCapacity_0f7a4 11 = .ok (.ishl, 1) := dkAt dk_J5_newCapacity_0f7a4 7 rfl
theorem dj_J5_newCapacity_0f7a4_12 : decode cJ5_newCapacity_0f7a4 12 = .ok (.istore_n 3, 1) := dkAt dk_J5_newCapacity_0f7a4 8 rfl
theorem dj_J5_newCapacity_0f7a4_13 : decode cJ5_newCapacity_0f7a4 13 = .ok (.iload_n 3, 1) := dkAt dk_J5_newCapacity_0f7a4 9 rfl
theorem dj_J5_newCapacity_0f7a4_14 : decode cJ5_newCapacity_0f7a4 14 = .ok (.iload_n 2, 1) := dkAt dk_J5_newCapacity_0f7a4 10 rfl
theorem dj_J5_newCapacity_0f7a4_15 : decode cJ5_newCapacity_0f7a4 15 = .ok (.isub, 1) := dkAt dk_J5_newCapacity_0f7a4 11 rfl
theorem dj_J5_newCapacity_0f7a4_16 : decode cJ5_newCapacity_0f7a4 16 = .ok (.istore 4, 2) := dkAt dk_J5_newCapacity_0f7a4 12 rfl
theorem dj_J5_newCapacity_0f7a4_18 : decode cJ5_newCapacity_0f7a4 18 = .ok (.iload_n 2, 1) := dkAt dk_J5_newCapacity_0f7a4 13 rfl
theorem dj_J5_newCapacity_0f7a4_19 : decode cJ5_newCapacity_0f7a4 19 = .ok (.iload 4, 2) := dkAt dk_J5_newCapacity_0f7a4 14 rfl
theorem dj_J5_newCapacity_0f7a4_21 : decode cJ5_newCapacity_0f7a4 21 = .ok (.iload_n 2, 1) := dkAt dk_J5_newCapacity_0f7a4 15 rfl
theorem dj_J5_newCapacity_0f7a4_22 : decode cJ5_newCapacity_0f7a4 22 = .ok (.iconst 2, 1) := dkAt dk_J5_newCapacity_0f7a4 16 rfl
theorem dj_J5_newCapacity_0f7a4_23 : decode cJ5_newCapacity_0f7a4 23 = .ok (.aload_n 0, 1) := dkAt dk_J5_newCapacity_0f7a4 17 rfl
theorem dj_J5_newCapacity_0f7a4_24 : decode cJ5_newCapacity_0f7a4 24 = .ok (.getfield 22, 3) := dkAt dk_J5_newCapacity_0f7a4 18 rfl
theorem dj_J5_newCapacity_0f7a4_27 : decode cJ5_newCapacity_0f7a4 27 = .ok (.ishl, 1) := dkAt dk_J5_newCapacity_0f7a4 19 rfl
theorem dj_J5_newCapacity_0f7a4_28 : decode cJ5_newCapacity_0f7a4 28 = .ok (.iadd, 1) := dkAt dk_J5_newCapacity_0f7a4 20 rfl
theorem dj_J5_newCapacity_0f7a4_29 : decode cJ5_newCapacity_0f7a4 29 = .ok (.invokestatic 114, 3) := dkAt dk_J5_newCapacity_0f7a4 21 rfl
theorem dj_J5_newCapacity_0f7a4_32 : decode cJ5_newCapacity_0f7a4 32 = .ok (.istore 5, 2) := dkAt dk_J5_newCapacity_0f7a4 22 rfl
theorem dj_J5_newCapacity_0f7a4_34 : decode cJ5_newCapacity_0f7a4 34 = .ok (.iload 5, 2) := dkAt dk_J5_newCapacity_0f7a4 23 rfl
theorem dj_J5_newCapacity_0f7a4_36 : decode cJ5_newCapacity_0f7a4 36 = .ok (.ldc 39, 2) := dkAt dk_J5_newCapacity_0f7a4 24 rfl
theorem dj_J5_newCapacity_0f7a4_38 : decode cJ5_newCapacity_0f7a4 38 = .ok (.if_icmp .ne 13, 3) := dkAt dk_J5_newCapacity_0f7a4 25 rfl
theorem dj_J5_newCapacity_0f7a4_41 : decode cJ5_newCapacity_0f7a4 41 = .ok (.new 120, 3) := dkAt dk_J5_newCapacity_0f7a4 26 rfl
theorem dj_J5_newCapacity_0f7a4_44 : decode cJ5_newCapacity_0f7a4 44 = .ok (.dup, 1) := dkAt dk_J5_newCapacity_0f7a4 27 rfl
theorem dj_J5_newCapacity_0f7a4_45 : decode cJ5_newCapacity_0f7a4 45 = .ok (.ldc 122, 2) := dkAt dk_J5_newCapacity_0f7a4 28 rfl
theorem dj_J5_newCapacity_0f7a4_47 : decode cJ5_newCapacity_0f7a4 47 = .ok (.invokespecial 124, 3) := dkAt dk_J5_newCapacity_0f7a4 29 rfl
theorem dj_J5_newCapacity_0f7a4_50 : decode cJ5_newCapacity_0f7a4 50 = .ok (.athrow, 1) := dkAt dk_J5_newCapacity_0f7a4 30 rfl
theorem dj_J5_newCapacity_0f7a4_51 : decode cJ5_newCapacity_0f7a4 51 = .ok (.iload 5, 2) := dkAt dk_J5_newCapacity_0f7a4 31 rfl
theorem dj_J5_newCapacity_0f7a4_53 : decode cJ5_newCapacity_0f7a4 53 = .ok (.aload_n 0, 1) := dkAt dk_J5_newCapacity_0f7a4 32 rfl
theorem dj_J5_newCapacity_0f7a4_54 : decode cJ5_newCapacity_0f7a4 54 = .ok (.getfield 22, 3) := dkAt dk_J5_newCapacity_0f7a4 33 rfl
theorem dj_J5_newCapacity_0f7a4_57 : decode cJ5_newCapacity_0f7a4 57 = .ok (.ishr, 1) := dkAt dk_J5_newCapacity_0f7a4 34 rfl
theorem dj_J5_newCapacity_0f7a4_58 : decode cJ5_newCapacity_0f7a4 58 = .ok (.ireturn, 1) := dkAt dk_J5_newCapacity_0f7a4 35 rfl
theorem mw_J5_inflate_da8c8 : MW yJ5_inflate_da8c8 cJ5_inflate_da8c8 2 none 0 := ⟨gd 49 (by decide +kernel) rfl, gd 615 (by decide +kernel) rfl, ⟨by decide, by decide⟩, by decide +kernel⟩
theorem mn_J5_inflate_da8c8 : Gd (.instanceMethod yJ5_inflate_da8c8) := gd 614 (by decide +kernel) rfl
theorem dj_J5_inflate_da8c8_0 : decode cJ5_inflate_da8c8 0 = .ok (.aload_n 0, 1) := dkAt dk_J5_inflate_da8c8 0 rfl
theorem dj_J5_inflate_da8c8_1 : decode cJ5_inflate_da8c8 1 = .ok (.invokevirtual 83, 3) := dkAt dk_J5_inflate_da8c8 1 rfl
theorem dj_J5_inflate_da8c8_4 : decode cJ5_inflate_da8c8 4 = .ok (.ifCond .ne 4, 3) := dkAt dk_J5_inflate_da8c8 2 rfl
theorem dj_J5_inflate_da8c8_7 : decode cJ5_inflate_da8c8 7 = .ok (.return_, 1) := dkAt dk_J5_inflate_da8c8 3 rfl
theorem dj_J5_inflate_da8c8_8 : decode cJ5_inflate_da8c8 8 = .ok (.aload_n 0, 1) := dkAt dk_J5_inflate_da8c8 4 rfl
theorem dj_J5_inflate_da8c8_9 : decode cJ5_inflate_da8c8 9 = .ok (.getfield 15, 3) := dkAt dk_J5_inflate_da8c8 5 rfl
theorem dj_J5_inflate_da8c8_12 : decode cJ5_inflate_da8c8 12 = .ok (.arraylength, 1) := dkAt dk_J5_inflate_da8c8 6 rfl
theorem dj_J5_inflate_da8c8_13 : decode cJ5_inflate_da8c8 13 = .ok (.invokestatic 26, 3) := dkAt dk_J5_inflate_da8c8 7 rfl
theorem dj_J5_inflate_da8c8_16 : decode cJ5_inflate_da8c8 16 = .ok (.astore_n 1, 1) := dkAt dk_J5_inflate_da8c8 8 rfl
theorem dj_J5_inflate_da8c8_17 : decode cJ5_inflate_da8c8 17 = .ok (.aload_n 0, 1) := dkAt dk_J5_inflate_da8c8 9 rfl
theorem dj_J5_inflate_da8c8_18 : decode cJ5_inflate_da8c8 18 = .ok (.getfield 15, 3) := dkAt dk_J5_inflate_da8c8 10 rfl
theorem dj_J5_inflate_da8c8_21 : decode cJ5_inflate_da8c8 21 = .ok (.iconst 0, 1) := dkAt dk_J5_inflate_da8c8 11 rfl
theorem dj_J5_inflate_da8c8_22 : decode cJ5_inflate_da8c8 22 = .ok (.aload_n 1, 1) := dkAt dk_J5_inflate_da8c8 12 rfl
theorem dj_J5_inflate_da8c8_23 : decode cJ5_inflate_da8c8 23 = .ok (.iconst 0, 1) := dkAt dk_J5_inflate_da8c8 13 rfl
theorem dj_J5_inflate_da8c8_24 : decode cJ5_inflate_da8c8 24 = .ok (.aload_n 0, 1) := dkAt dk_J5_inflate_da8c8 14 rfl
theorem dj_J5_inflate_da8c8_25 : decode cJ5_inflate_da8c8 25 = .ok (.getfield 79, 3) := dkAt dk_J5_inflate_da8c8 15 rfl
theorem dj_J5_inflate_da8c8_28 : decode cJ5_inflate_da8c8 28 = .ok (.invokestatic 125, 3) := dkAt dk_J5_inflate_da8c8 16 rfl
theorem dj_J5_inflate_da8c8_31 : decode cJ5_inflate_da8c8 31 = .ok (.aload_n 0, 1) := dkAt dk_J5_inflate_da8c8 17 rfl
theorem dj_J5_inflate_da8c8_32 : decode cJ5_inflate_da8c8 32 = .ok (.aload_n 1, 1) := dkAt dk_J5_inflate_da8c8 18 rfl
theorem dj_J5_inflate_da8c8_33 : decode cJ5_inflate_da8c8 33 = .ok (.putfield 15, 3) := dkAt dk_J5_inflate_da8c8 19 rfl
theorem dj_J5_inflate_da8c8_36 : decode cJ5_inflate_da8c8 36 = .ok (.aload_n 0, 1) := dkAt dk_J5_inflate_da8c8 20 rfl
theorem dj_J5_inflate_da8c8_37 : decode cJ5_inflate_da8c8 37 = .ok (.iconst 1, 1) := dkAt dk_J5_inflate_da8c8 21 rfl
theorem dj_J5_inflate_da8c8_38 : decode cJ5_inflate_da8c8 38 = .ok (.putfield 22, 3) := dkAt dk_J5_inflate_da8c8 22 rfl
theorem dj_J5_inflate_da8c8_41 : decode cJ5_inflate_da8c8 41 = .ok (.return_, 1) := dkAt dk_J5_inflate_da8c8 23 rfl
theorem mw_J5_append_cf1ce : MW yJ5_append_cf1ce cJ5_append_cf1ce 3 (some (.object "java/lang/AbstractStringBuilder")) 1 := ⟨gd 49 (by decide +kernel) rfl, gd 533 (by decide +kernel) rfl, ⟨by decide, by decide⟩, by decide +kernel⟩
theorem mn_J5_append_cf1ce : Gd (.instanceMethod yJ5_append_cf1ce) := gd 522 (by decide +kernel) rfl
theorem dj_J5_append_cf1ce_0 : decode cJ5_append_cf1ce 0 = .ok (.aload_n 1, 1) := dkAt dk_J5_append_cf1ce 0 rfl
theorem dj_J5_append_cf1ce_1 : decode cJ5_append_cf1ce 1 = .ok (.ifnonnull 8, 3) := dkAt dk_J5_append_cf1ce 1 rfl
theorem dj_J5_append_cf1ce_4 : decode cJ5_append_cf1ce 4 = .ok (.aload_n 0, 1) := dkAt dk_J5_append_cf1ce 2 rfl
theorem dj_J5_append_cf1ce_5 : decode cJ5_append_cf1ce 5 = .ok (.invokevirtual 204, 3) := dkAt dk_J5_append_cf1ce 3 rfl
theorem dj_J5_append_cf1ce_8 : decode cJ5_append_cf1ce 8 = .ok (.areturn, 1) := dkAt dk_J5_append_cf1ce 4 rfl
theorem dj_J5_append_cf1ce_9 : decode cJ5_append_cf1ce 9 = .ok (.aload_n 1, 1) := dkAt dk_J5_append_cf1ce 5 rfl
theorem dj_J5_append_cf1ce_10 : decode cJ5_append_cf1ce 10 = .ok (.invokevirtual 32, 3) := dkAt dk_J5_append_cf1ce 6 rfl
theorem dj_J5_append_cf1ce_13 : decode cJ5_append_cf1ce 13 = .ok (.istore_n 2, 1) := dkAt dk_J5_append_cf1ce 7 rfl
theorem dj_J5_append_cf1ce_14 : decode cJ5_append_cf1ce 14 = .ok (.aload_n 0, 1) := dkAt dk_J5_append_cf1ce 8 rfl
theorem dj_J5_append_cf1ce_15 : decode cJ5_append_cf1ce 15 = .ok (.aload_n 0, 1) := dkAt dk_J5_append_cf1ce 9 rfl
theorem dj_J5_append_cf1ce_16 : decode cJ5_append_cf1ce 16 = .ok (.getfield 79, 3) := dkAt dk_J5_append_cf1ce 10 rfl
theorem dj_J5_append_cf1ce_19 : decode cJ5_append_cf1ce 19 = .ok (.iload_n 2, 1) := dkAt dk_J5_append_cf1ce 11 rfl
theorem dj_J5_append_cf1ce_20 : decode cJ5_append_cf1ce 20 = .ok (.iadd, 1) := dkAt dk_J5_append_cf1ce 12 rfl
theorem dj_J5_append_cf1ce_21 : decode cJ5_append_cf1ce 21 = .ok (.invokevirtual 100, 3) := dkAt dk_J5_append_cf1ce 13 rfl
theorem dj_J5_append_cf1ce_24 : decode cJ5_append_cf1ce 24 = .ok (.aload_n 0, 1) := dkAt dk_J5_append_cf1ce 14 rfl
theorem dj_J5_append_cf1ce_25 : decode cJ5_append_cf1ce 25 = .ok (.aload_n 0, 1) := dkAt dk_J5_append_cf1ce 15 rfl
theorem dj_J5_append_cf1ce_26 : decode cJ5_append_cf1ce 26 = .ok (.getfield 79, 3) := dkAt dk_J5_append_cf1ce 16 rfl
theorem dj_J5_append_cf1ce_29 : decode cJ5_append_cf1ce 29 = .ok (.aload_n 1, 1) := dkAt dk_J5_append_cf1ce 17 rfl
theorem dj_J5_append_cf1ce_30 : decode cJ5_append_cf1ce 30 = .ok (.invokevirtual 208, 3) := dkAt dk_J5_append_cf1ce 18 rfl
theorem dj_J5_append_cf1ce_33 : decode cJ5_append_cf1ce 33 = .ok (.aload_n 0, 1) := dkAt dk_J5_append_cf1ce 19 rfl
theorem dj_J5_append_cf1ce_34 : decode cJ5_append_cf1ce 34 = .ok (.dup, 1) := dkAt dk_J5_append_cf1ce 20 rfl
theorem dj_J5_append_cf1ce_35 : decode cJ5_append_cf1ce 35 = .ok (.getfield 79, 3) := dkAt dk_J5_append_cf1ce 21 rfl
theorem dj_J5_append_cf1ce_38 : decode cJ5_append_cf1ce 38 = .ok (.iload_n 2, 1) := dkAt dk_J5_append_cf1ce 22 rfl
theorem dj_J5_append_cf1ce_39 : decode cJ5_append_cf1ce 39 = .ok (.iadd, 1) := dkAt dk_J5_append_cf1ce 23 rfl
theorem dj_J5_append_cf1ce_40 : decode cJ5_append_cf1ce 40 = .ok (.putfield 79, 3) := dkAt dk_J5_append_cf1ce 24 rfl
theorem dj_J5_append_cf1ce_43 : decode cJ5_append_cf1ce 43 = .ok (.aload_n 0, 1) := dkAt dk_J5_append_cf1ce 25 rfl
theorem dj_J5_append_cf1ce_44 : decode cJ5_append_cf1ce 44 = .ok (.areturn, 1) := dkAt dk_J5_append_cf1ce 26 rfl
theorem mw_J5_appendNull_278bc : MW yJ5_appendNull_278bc cJ5_appendNull_278bc 3 (some (.object "java/lang/AbstractStringBuilder")) 0 := ⟨gd 49 (by decide +kernel) rfl, gd 537 (by decide +kernel) rfl, ⟨by decide, by decide⟩, by decide +kernel⟩
theorem mn_J5_appendNull_278bc : Gd (.instanceMethod yJ5_appendNull_278bc) := gd 536 (by decide +kernel) rfl
theorem dj_J5_appendNull_278bc_0 : decode cJ5_appendNull_278bc 0 = .ok (.aload_n 0, 1) := dkAt dk_J5_appendNull_278bc 0 rfl
theorem dj_J5_appendNull_278bc_1 : decode cJ5_appendNull_278bc 1 = .ok (.aload_n 0, 1) := dkAt dk_J5_appendNull_278bc 1 rfl
theorem dj_J5_appendNull_278bc_2 : decode cJ5_appendNull_278bc 2 = .ok (.getfield 79, 3) := dkAt dk_J5_appendNull_278bc 2 rfl
theorem dj_J5_appendNull_278bc_5 : decode cJ5_appendNull_278bc 5 = .ok (.iconst 4, 1) := dkAt dk_J5_appendNull_278bc 3 rfl
theorem dj_J5_appendNull_278bc_6 : decode cJ5_appendNull_278bc 6 = .ok (.iadd, 1) := dkAt dk_J5_appendNull_278bc 4 rfl
theorem dj_J5_appendNull_278bc_7 : decode cJ5_appendNull_278bc 7 = .ok (.invokevirtual 100, 3) := dkAt dk_J5_appendNull_278bc 5 rfl
theorem dj_J5_appendNull_278bc_10 : decode cJ5_appendNull_278bc 10 = .ok (.aload_n 0, 1) := dkAt dk_J5_appendNull_278bc 6 rfl
theorem dj_J5_appendNull_278bc_11 : decode cJ5_appendNull_278bc 11 = .ok (.getfield 79, 3) := dkAt dk_J5_appendNull_278bc 7 rfl
theorem dj_J5_appendNull_278bc_14 : decode cJ5_appendNull_278bc 14 = .ok (.istore_n 1, 1) := dkAt dk_J5_appendNull_278bc 8 rfl
theorem dj_J5_appendNull_278bc_15 : decode cJ5_appendNull_278bc 15 = .ok (.aload_n 0, 1) := dkAt dk_J5_appendNull_278bc 9 rfl
theorem dj_J5_appendNull_278bc_16 : decode cJ5_appendNull_278bc 16 = .ok (.getfield 15, 3) := dkAt dk_J5_appendNull_278bc 10 rfl
theorem dj_J5_appendNull_278bc_19 : decode cJ5_appendNull_278bc 19 = .ok (.astore_n 2, 1) := dkAt dk_J5_appendNull_278bc 11 rfl
theorem dj_J5_appendNull_278bc_20 : decode cJ5_appendNull_278bc 20 = .ok (.aload_n 0, 1) := dkAt dk_J5_appendNull_278bc 12 rfl
theorem dj_J5_appendNull_278bc_21 : decode cJ5_appendNull_278bc 21 = .ok (.invokevirtual 83, 3) := dkAt dk_J5_appendNull_278bc 13 rfl
theorem dj_J5_appendNull_278bc_24 : decode cJ5_appendNull_278bc 24 = .ok (.ifCond .eq 38, 3) := dkAt dk_J5_appendNull_278bc 14 rfl
theorem dj_J5_appendNull_278bc_27 : decode cJ5_appendNull_278bc 27 = .ok (.aload_n 2, 1) := dkAt dk_J5_appendNull_278bc 15 rfl
theorem dj_J5_appendNull_278bc_28 : decode cJ5_appendNull_278bc 28 = .ok (.iload_n 1, 1) := dkAt dk_J5_appendNull_278bc 16 rfl
theorem dj_J5_appendNull_278bc_29 : decode cJ5_appendNull_278bc 29 = .ok (.iinc 1 1, 3) := dkAt dk_J5_appendNull_278bc 17 rfl
theorem dj_J5_appendNull_278bc_32 : decode cJ5_appendNull_278bc 32 = .ok (.bipush 110, 2) := dkAt dk_J5_appendNull_278bc 18 rfl
theorem dj_J5_appendNull_278bc_34 : decode cJ5_appendNull_278bc 34 = .ok (.bastore, 1) := dkAt dk_J5_appendNull_278bc 19 rfl
theorem dj_J5_appendNull_278bc_35 : decode cJ5_appendNull_278bc 35 = .ok (.aload_n 2, 1) := dkAt dk_J5_appendNull_278bc 20 rfl
theorem dj_J5_appendNull_278bc_36 : decode cJ5_appendNull_278bc 36 = .ok (.iload_n 1, 1) := dkAt dk_J5_appendNull_278bc 21 rfl
theorem dj_J5_appendNull_278bc_37 : decode cJ5_appendNull_278bc 37 = .ok (.iinc 1 1, 3) := dkAt dk_J5_appendNull_278bc 22 rfl
theorem dj_J5_appendNull_278bc_40 : decode cJ5_appendNull_278bc 40 = .ok (.bipush 117, 2) := dkAt dk_J5_appendNull_278bc 23 rfl
theorem dj_J5_appendNull_278bc_42 : decode cJ5_appendNull_278bc 42 = .ok (.bastore, 1) := dkAt dk_J5_appendNull_278bc 24 rfl
theorem dj_J5_appendNull_278bc_43 : decode cJ5_appendNull_278bc 43 = .ok (.aload_n 2, 1) := dkAt dk_J5_appendNull_278bc 25 rfl
theorem dj_J5_appendNull_278bc_44 : decode cJ5_appendNull_278bc 44 = .ok (.iload_n 1, 1) := dkAt dk_J5_appendNull_278bc 26 rfl
theorem dj_J5_appendNull_278bc_45 : decode cJ5_appendNull_278bc 45 = .ok (.iinc 1 1, 3) := dkAt dk_J5_appendNull_278bc 27 rfl
theorem dj_J5_appendNull_278bc_48 : decode cJ5_appendNull_278bc 48 = .ok (.bipush 108, 2) := dkAt dk_J5_appendNull_278bc 28 rfl
theorem dj_J5_appendNull_278bc_50 : decode cJ5_appendNull_278bc 50 = .ok (.bastore, 1) := dkAt dk_J5_appendNull_278bc 29 rfl
theorem dj_J5_appendNull_278bc_51 : decode cJ5_appendNull_278bc 51 = .ok (.aload_n 2, 1) := dkAt dk_J5_appendNull_278bc 30 rfl
theorem dj_J5_appendNull_278bc_52 : decode cJ5_appendNull_278bc 52 = .ok (.iload_n 1, 1) := dkAt dk_J5_appendNull_278bc 31 rfl
theorem dj_J5_appendNull_278bc_53 : decode cJ5_appendNull_278bc 53 = .ok (.iinc 1 1, 3) := dkAt dk_J5_appendNull_278bc 32 rfl
theorem dj_J5_appendNull_278bc_56 : decode cJ5_appendNull_278bc 56 = .ok (.bipush 108, 2) := dkAt dk_J5_appendNull_278bc 33 rfl
theorem dj_J5_appendNull_278bc_58 : decode cJ5_appendNull_278bc 58 = .ok (.bastore, 1) := dkAt dk_J5_appendNull_278bc 34 rfl
theorem dj_J5_appendNull_278bc_59 : decode cJ5_appendNull_278bc 59 = .ok (.goto 17, 3) := dkAt dk_J5_appendNull_278bc 35 rfl
theorem dj_J5_appendNull_278bc_62 : decode cJ5_appendNull_278bc 62 = .ok (.aload_n 2, 1) := dkAt dk_J5_appendNull_278bc 36 rfl
theorem dj_J5_appendNull_278bc_63 : decode cJ5_appendNull_278bc 63 = .ok (.iload_n 1, 1) := dkAt dk_J5_appendNull_278bc 37 rfl
theorem dj_J5_appendNull_278bc_64 : decode cJ5_appendNull_278bc 64 = .ok (.bipush 110, 2) := dkAt dk_J5_appendNull_278bc 38 rfl
theorem dj_J5_appendNull_278bc_66 : decode cJ5_appendNull_278bc 66 = .ok (.bipush 117, 2) := dkAt dk_J5_appendNull_278bc 39 rfl
theorem dj_J5_appendNull_278bc_68 : decode cJ5_appendNull_278bc 68 = .ok (.bipush 108, 2) := dkAt dk_J5_appendNull_278bc 40 rfl
theorem dj_J5_appendNull_278bc_70 : decode cJ5_appendNull_278bc 70 = .ok (.bipush 108, 2) := dkAt dk_J5_appendNull_278bc 41 rfl
theorem dj_J5_appendNull_278bc_72 : decode cJ5_appendNull_278bc 72 = .ok (.invokestatic 226, 3) := dkAt dk_J5_appendNull_278bc 42 rfl
theorem dj_J5_appendNull_278bc_75 : decode cJ5_appendNull_278bc 75 = .ok (.istore_n 1, 1) := dkAt dk_J5_appendNull_278bc 43 rfl
theorem dj_J5_appendNull_278bc_76 : decode cJ5_appendNull_278bc 76 = .ok (.aload_n 0, 1) := dkAt dk_J5_appendNull_278bc 44 rfl
theorem dj_J5_appendNull_278bc_77 : decode cJ5_appendNull_278bc 77 = .ok (.iload_n 1, 1) := dkAt dk_J5_appendNull_278bc 45 rfl
theorem dj_J5_appendNull_278bc_78 : decode cJ5_appendNull_278bc 78 = .ok (.putfield 79, 3) := dkAt dk_J5_appendNull_278bc 46 rfl
theorem dj_J5_appendNull_278bc_81 : decode cJ5_appendNull_278bc 81 = .ok (.aload_n 0, 1) := dkAt dk_J5_appendNull_278bc 47 rfl
theorem dj_J5_appendNull_278bc_82 : decode cJ5_appendNull_278bc 82 = .ok (.areturn, 1) := dkAt dk_J5_appendNull_278bc 48 rfl
theorem mw_J5_append_3fe6f : MW yJ5_append_3fe6f cJ5_append_3fe6f 2 (some (.object "java/lang/AbstractStringBuilder")) 1 := ⟨gd 49 (by decide +kernel) rfl, gd 706 (by decide +kernel) rfl, ⟨by decide, by decide⟩, by decide +kernel⟩
theorem mn_J5_append_3fe6f : Gd (.instanceMethod yJ5_append_3fe6f) := gd 705 (by decide +kernel) rfl
theorem dj_J5_append_3fe6f_0 : decode cJ5_append_3fe6f 0 = .ok (.aload_n 0, 1) := dkAt dk_J5_append_3fe6f 0 rfl
theorem dj_J5_append_3fe6f_1 : decode cJ5_append_3fe6f 1 = .ok (.aload_n 0, 1) := dkAt dk_J5_append_3fe6f 1 rfl
theorem dj_J5_append_3fe6f_2 : decode cJ5_append_3fe6f 2 = .ok (.getfield 79, 3) := dkAt dk_J5_append_3fe6f 2 rfl
theorem dj_J5_append_3fe6f_5 : decode cJ5_append_3fe6f 5 = .ok (.iconst 1, 1) := dkAt dk_J5_append_3fe6f 3 rfl
theorem dj_J5_append_3fe6f_6 : decode cJ5_append_3fe6f 6 = .ok (.iadd, 1) := dkAt dk_J5_append_3fe6f 4 rfl
theorem dj_J5_append_3fe6f_7 : decode cJ5_append_3fe6f 7 = .ok (.invokevirtual 100, 3) := dkAt dk_J5_append_3fe6f 5 rfl
theorem dj_J5_append_3fe6f_10 : decode cJ5_append_3fe6f 10 = .ok (.aload_n 0, 1) := dkAt dk_J5_append_3fe6f 6 rfl
theorem dj_J5_append_3fe6f_11 : decode cJ5_append_3fe6f 11 = .ok (.invokevirtual 83, 3) := dkAt dk_J5_append_3fe6f 7 rfl
theorem dj_J5_append_3fe6f_14 : decode cJ5_append_3fe6f 14 = .ok (.ifCond .eq 31, 3) := dkAt dk_J5_append_3fe6f 8 rfl
theorem dj_J5_append_3fe6f_17 : decode cJ5_append_3fe6f 17 = .ok (.iload_n 1, 1) := dkAt dk_J5_append_3fe6f 9 rfl
theorem dj_J5_append_3fe6f_18 : decode cJ5_append_3fe6f 18 = .ok (.invokestatic 191, 3) := dkAt dk_J5_append_3fe6f 10 rfl
theorem dj_J5_append_3fe6f_21 : decode cJ5_append_3fe6f 21 = .ok (.ifCond .eq 24, 3) := dkAt dk_J5_append_3fe6f 11 rfl
theorem dj_J5_append_3fe6f_24 : decode cJ5_append_3fe6f 24 = .ok (.aload_n 0, 1) := dkAt dk_J5_append_3fe6f 12 rfl
theorem dj_J5_append_3fe6f_25 : decode cJ5_append_3fe6f 25 = .ok (.getfield 15, 3) := dkAt dk_J5_append_3fe6f 13 rfl
theorem dj_J5_append_3fe6f_28 : decode cJ5_append_3fe6f 28 = .ok (.aload_n 0, 1) := dkAt dk_J5_append_3fe6f 14 rfl
theorem dj_J5_append_3fe6f_29 : decode cJ5_append_3fe6f 29 = .ok (.dup, 1) := dkAt dk_J5_append_3fe6f 15 rfl
theorem dj_J5_append_3fe6f_30 : decode cJ5_append_3fe6f 30 = .ok (.getfield 79, 3) := dkAt dk_J5_append_3fe6f 16 rfl
theorem dj_J5_append_3fe6f_33 : decode cJ5_append_3fe6f 33 = .ok (.dup_x1, 1) := dkAt dk_J5_append_3fe6f 17 rfl
theorem dj_J5_append_3fe6f_34 : decode cJ5_append_3fe6f 34 = .ok (.iconst 1, 1) := dkAt dk_J5_append_3fe6f 18 rfl
theorem dj_J5_append_3fe6f_35 : decode cJ5_append_3fe6f 35 = .ok (.iadd, 1) := dkAt dk_J5_append_3fe6f 19 rfl
theorem dj_J5_append_3fe6f_36 : decode cJ5_append_3fe6f 36 = .ok (.putfield 79, 3) := dkAt dk_J5_append_3fe6f 20 rfl
theorem dj_J5_append_3fe6f_39 : decode cJ5_append_3fe6f 39 = .ok (.iload_n 1, 1) := dkAt dk_J5_append_3fe6f 21 rfl
theorem dj_J5_append_3fe6f_40 : decode cJ5_append_3fe6f 40 = .ok (.i2b, 1) := dkAt dk_J5_append_3fe6f 22 rfl
theorem dj_J5_append_3fe6f_41 : decode cJ5_append_3fe6f 41 = .ok (.bastore, 1) := dkAt dk_J5_append_3fe6f 23 rfl
theorem dj_J5_append_3fe6f_42 : decode cJ5_append_3fe6f 42 = .ok (.goto 33, 3) := dkAt dk_J5_append_3fe6f 24 rfl
theorem dj_J5_append_3fe6f_45 : decode cJ5_append_3fe6f 45 = .ok (.aload_n 0, 1) := dkAt dk_J5_append_3fe6f 25 rfl
theorem dj_J5_append_3fe6f_46 : decode cJ5_append_3fe6f 46 = .ok (.invokevirtual 83, 3) := dkAt dk_J5_append_3fe6f 26 rfl
theorem dj_J5_append_3fe6f_49 : decode cJ5_append_3fe6f 49 = .ok (.ifCond .eq 7, 3) := dkAt dk_J5_append_3fe6f 27 rfl
theorem dj_J5_append_3fe6f_52 : decode cJ5_append_3fe6f 52 = .ok (.aload_n 0, 1) := dkAt dk_J5_append_3fe6f 28 rfl
theorem dj_J5_append_3fe6f_53 : decode cJ5_append_3fe6f 53 = .ok (.invokevirtual 195, 3) := dkAt dk_J5_append_3fe6f 29 rfl
theorem dj_J5_append_3fe6f_56 : decode cJ5_append_3fe6f 56 = .ok (.aload_n 0, 1) := dkAt dk_J5_append_3fe6f 30 rfl
theorem dj_J5_append_3fe6f_57 : decode cJ5_append_3fe6f 57 = .ok (.getfield 15, 3) := dkAt dk_J5_append_3fe6f 31 rfl
theorem dj_J5_append_3fe6f_60 : decode cJ5_append_3fe6f 60 = .ok (.aload_n 0, 1) := dkAt dk_J5_append_3fe6f 32 rfl
theorem dj_J5_append_3fe6f_61 : decode cJ5_append_3fe6f 61 = .ok (.dup, 1) := dkAt dk_J5_append_3fe6f 33 rfl
theorem dj_J5_append_3fe6f_62 : decode cJ5_append_3fe6f 62 = .ok (.getfield 79, 3) := dkAt dk_J5_append_3fe6f 34 rfl
theorem dj_J5_append_3fe6f_65 : decode cJ5_append_3fe6f 65 = .ok (.dup_x1, 1) := dkAt dk_J5_append_3fe6f 35 rfl
theorem dj_J5_append_3fe6f_66 : decode cJ5_append_3fe6f 66 = .ok (.iconst 1, 1) := dkAt dk_J5_append_3fe6f 36 rfl
theorem dj_J5_append_3fe6f_67 : decode cJ5_append_3fe6f 67 = .ok (.iadd, 1) := dkAt dk_J5_append_3fe6f 37 rfl
theorem dj_J5_append_3fe6f_68 : decode cJ5_append_3fe6f 68 = .ok (.putfield 79, 3) := dkAt dk_J5_append_3fe6f 38 rfl
theorem dj_J5_append_3fe6f_71 : decode cJ5_append_3fe6f 71 = .ok (.iload_n 1, 1) := dkAt dk_J5_append_3fe6f 39 rfl
theorem dj_J5_append_3fe6f_72 : decode cJ5_append_3fe6f 72 = .ok (.invokestatic 197, 3) := dkAt dk_J5_append_3fe6f 40 rfl
theorem dj_J5_append_3fe6f_75 : decode cJ5_append_3fe6f 75 = .ok (.aload_n 0, 1) := dkAt dk_J5_append_3fe6f 41 rfl
theorem dj_J5_append_3fe6f_76 : decode cJ5_append_3fe6f 76 = .ok (.areturn, 1) := dkAt dk_J5_append_3fe6f 42 rfl
theorem mw_J5_append_c97b9 : MW yJ5_append_c97b9 cJ5_append_c97b9 4 (some (.object "java/lang/AbstractStringBuilder")) 1 := ⟨gd 49 (by decide +kernel) rfl, gd 666 (by decide +kernel) rfl, ⟨by decide, by decide⟩, by decide +kernel⟩
theorem mn_J5_append_c97b9 : Gd (.instanceMethod yJ5_append_c97b9) := gd 665 (by decide +kernel) rfl
theorem dj_J5_append_c97b9_0 : decode cJ5_append_c97b9 0 = .ok (.aload_n 0, 1) := dkAt dk_J5_append_c97b9 0 rfl
theorem dj_J5_append_c97b9_1 : decode cJ5_append_c97b9 1 = .ok (.getfield 79, 3) := dkAt dk_J5_append_c97b9 1 rfl
theorem dj_J5_append_c97b9_4 : decode cJ5_append_c97b9 4 = .ok (.istore_n 2, 1) := dkAt dk_J5_append_c97b9 2 rfl
theorem dj_J5_append_c97b9_5 : decode cJ5_append_c97b9 5 = .ok (.iload_n 2, 1) := dkAt dk_J5_append_c97b9 3 rfl
theorem dj_J5_append_c97b9_6 : decode cJ5_append_c97b9 6 = .ok (.iload_n 1, 1) := dkAt dk_J5_append_c97b9 4 rfl
theorem dj_J5_append_c97b9_7 : decode cJ5_append_c97b9 7 = .ok (.invokestatic 245, 3) := dkAt dk_J5_append_c97b9 5 rfl
theorem dj_J5_append_c97b9_10 : decode cJ5_append_c97b9 10 = .ok (.iadd, 1) := dkAt dk_J5_append_c97b9 6 rfl
theorem dj_J5_append_c97b9_11 : decode cJ5_append_c97b9 11 = .ok (.istore_n 3, 1) := dkAt dk_J5_append_c97b9 7 rfl
theorem dj_J5_append_c97b9_12 : decode cJ5_append_c97b9 12 = .ok (.aload_n 0, 1) := dkAt dk_J5_append_c97b9 8 rfl
theorem dj_J5_append_c97b9_13 : decode cJ5_append_c97b9 13 = .ok (.iload_n 3, 1) := dkAt dk_J5_append_c97b9 9 rfl
theorem dj_J5_append_c97b9_14 : decode cJ5_append_c97b9 14 = .ok (.invokevirtual 100, 3) := dkAt dk_J5_append_c97b9 10 rfl
theorem dj_J5_append_c97b9_17 : decode cJ5_append_c97b9 17 = .ok (.aload_n 0, 1) := dkAt dk_J5_append_c97b9 11 rfl
theorem dj_J5_append_c97b9_18 : decode cJ5_append_c97b9 18 = .ok (.invokevirtual 83, 3) := dkAt dk_J5_append_c97b9 12 rfl
theorem dj_J5_append_c97b9_21 : decode cJ5_append_c97b9 21 = .ok (.ifCond .eq 16, 3) := dkAt dk_J5_append_c97b9 13 rfl
theorem dj_J5_append_c97b9_24 : decode cJ5_append_c97b9 24 = .ok (.iload_n 1, 1) := dkAt dk_J5_append_c97b9 14 rfl
theorem dj_J5_append_c97b9_25 : decode cJ5_append_c97b9 25 = .ok (.iload_n 3, 1) := dkAt dk_J5_append_c97b9 15 rfl
theorem dj_J5_append_c97b9_26 : decode cJ5_append_c97b9 26 = .ok (.aload_n 0, 1) := dkAt dk_J5_append_c97b9 16 rfl
theorem dj_J5_append_c97b9_27 : decode cJ5_append_c97b9 27 = .ok (.getfield 15, 3) := dkAt dk_J5_append_c97b9 17 rfl
theorem dj_J5_append_c97b9_30 : decode cJ5_append_c97b9 30 = .ok (.invokestatic 248, 3) := dkAt dk_J5_append_c97b9 18 rfl
theorem dj_J5_append_c97b9_33 : decode cJ5_append_c97b9 33 = .ok (.pop, 1) := dkAt dk_J5_append_c97b9 19 rfl
theorem dj_J5_append_c97b9_34 : decode cJ5_append_c97b9 34 = .ok (.goto 14, 3) := dkAt dk_J5_append_c97b9 20 rfl
theorem dj_J5_append_c97b9_37 : decode cJ5_append_c97b9 37 = .ok (.iload_n 1, 1) := dkAt dk_J5_append_c97b9 21 rfl
theorem dj_J5_append_c97b9_38 : decode cJ5_append_c97b9 38 = .ok (.iload_n 2, 1) := dkAt dk_J5_append_c97b9 22 rfl
theorem dj_J5_append_c97b9_39 : decode cJ5_append_c97b9 39 = .ok (.iload_n 3, 1) := dkAt dk_J5_append_c97b9 23 rfl
theorem dj_J5_append_c97b9_40 : decode cJ5_append_c97b9 40 = .ok (.aload_n 0, 1) := dkAt dk_J5_append_c97b9 24 rfl
theorem dj_J5_append_c97b9_41 : decode cJ5_append_c97b9 41 = .ok (.getfield 15, 3) := dkAt dk_J5_append_c97b9 25 rfl
theorem dj_J5_append_c97b9_44 : decode cJ5_append_c97b9 44 = .ok (.invokestatic 251, 3) := dkAt dk_J5_append_c97b9 26 rfl
theorem dj_J5_append_c97b9_47 : decode cJ5_append_c97b9 47 = .ok (.pop, 1) := dkAt dk_J5_append_c97b9 27 rfl
theorem dj_J5_append_c97b9_48 : decode cJ5_append_c97b9 48 = .ok (.aload_n 0, 1) := dkAt dk_J5_append_c97b9 28 rfl
theorem dj_J5_append_c97b9_49 : decode cJ5_append_c97b9 49 = .ok (.iload_n 3, 1) := dkAt dk_J5_append_c97b9 29 rfl
theorem dj_J5_append_c97b9_50 : decode cJ5_append_c97b9 50 = .ok (.putfield 79, 3) := dkAt dk_J5_append_c97b9 30 rfl
theorem dj_J5_append_c97b9_53 : decode cJ5_append_c97b9 53 = .ok (.aload_n 0, 1) := dkAt dk_J5_append_c97b9 31 rfl
theorem dj_J5_append_c97b9_54 : decode cJ5_append_c97b9 54 = .ok (.areturn, 1) := dkAt dk_J5_append_c97b9 32 rfl
theorem mw_J5_getValue_6d5f1 : MW yJ5_getValue_6d5f1 cJ5_getValue_6d5f1 1 (some (.array .byte)) 0 := ⟨gd 49 (by decide +kernel) rfl, gd 1623 (by decide +kernel) rfl, ⟨by decide, by decide⟩, by decide +kernel⟩
theorem mn_J5_getValue_6d5f1 : Gd (.instanceMethod yJ5_getValue_6d5f1) := gd 1620 (by decide +kernel) rfl
theorem dj_J5_getValue_6d5f1_0 : decode cJ5_getValue_6d5f1 0 = .ok (.aload_n 0, 1) := dkAt dk_J5_getValue_6d5f1 0 rfl
theorem dj_J5_getValue_6d5f1_1 : decode cJ5_getValue_6d5f1 1 = .ok (.getfield 15, 3) := dkAt dk_J5_getValue_6d5f1 1 rfl
theorem dj_J5_getValue_6d5f1_4 : decode cJ5_getValue_6d5f1 4 = .ok (.areturn, 1) := dkAt dk_J5_getValue_6d5f1 2 rfl
theorem mw_J5_isLatin1_aae02 : MW yJ5_isLatin1_aae02 cJ5_isLatin1_aae02 1 (some .boolean) 0 := ⟨gd 49 (by decide +kernel) rfl, gd 576 (by decide +kernel) rfl, ⟨by decide, by decide⟩, by decide +kernel⟩
theorem mn_J5_isLatin1_aae02 : Gd (.instanceMethod yJ5_isLatin1_aae02) := gd 573 (by decide +kernel) rfl
theorem dj_J5_isLatin1_aae02_0 : decode cJ5_isLatin1_aae02 0 = .ok (.getstatic 18, 3) := dkAt dk_J5_isLatin1_aae02 0 rfl
theorem dj_J5_isLatin1_aae02_3 : decode cJ5_isLatin1_aae02 3 = .ok (.ifCond .eq 14, 3) := dkAt dk_J5_isLatin1_aae02 1 rfl
theorem dj_J5_isLatin1_aae02_6 : decode cJ5_isLatin1_aae02 6 = .ok (.aload_n 0, 1) := dkAt dk_J5_isLatin1_aae02 2 rfl
theorem dj_J5_isLatin1_aae02_7 : decode cJ5_isLatin1_aae02 7 = .ok (.getfield 22, 3) := dkAt dk_J5_isLatin1_aae02 3 rfl
theorem dj_J5_isLatin1_aae02_10 : decode cJ5_isLatin1_aae02 10 = .ok (.ifCond .ne 7, 3) := dkAt dk_J5_isLatin1_aae02 4 rfl
theorem dj_J5_isLatin1_aae02_13 : decode cJ5_isLatin1_aae02 13 = .ok (.iconst 1, 1) := dkAt dk_J5_isLatin1_aae02 5 rfl
theorem dj_J5_isLatin1_aae02_14 : decode cJ5_isLatin1_aae02 14 = .ok (.goto 4, 3) := dkAt dk_J5_isLatin1_aae02 6 rfl
theorem dj_J5_isLatin1_aae02_17 : decode cJ5_isLatin1_aae02 17 = .ok (.iconst 0, 1) := dkAt dk_J5_isLatin1_aae02 7 rfl
theorem dj_J5_isLatin1_aae02_18 : decode cJ5_isLatin1_aae02 18 = .ok (.ireturn, 1) := dkAt dk_J5_isLatin1_aae02 8 rfl
theorem mw_J5_inflateIfNeededFor_a7421 : MW yJ5_inflateIfNeededFor_a7421 cJ5_inflateIfNeededFor_a7421 2 none 1 := ⟨gd 49 (by decide +kernel) rfl, gd 611 (by decide +kernel) rfl, ⟨by decide, by decide⟩, by decide +kernel⟩
theorem mn_J5_inflateIfNeededFor_a7421 : Gd (.instanceMethod yJ5_inflateIfNeededFor_a7421) := gd 610 (by decide +kernel) rfl
theorem dj_J5_inflateIfNeededFor_a7421_0 : decode cJ5_inflateIfNeededFor_a7421 0 = .ok (.getstatic 18, 3) := dkAt dk_J5_inflateIfNeededFor_a7421 0 rfl
theorem dj_J5_inflateIfNeededFor_a7421_3 : decode cJ5_inflateIfNeededFor_a7421 3 = .ok (.ifCond .eq 18, 3) := dkAt dk_J5_inflateIfNeededFor_a7421 1 rfl
theorem dj_J5_inflateIfNeededFor_a7421_6 : decode cJ5_inflateIfNeededFor_a7421 6 = .ok (.aload_n 0, 1) := dkAt dk_J5_inflateIfNeededFor_a7421 2 rfl
theorem dj_J5_inflateIfNeededFor_a7421_7 : decode cJ5_inflateIfNeededFor_a7421 7 = .ok (.getfield 22, 3) := dkAt dk_J5_inflateIfNeededFor_a7421 3 rfl
theorem dj_J5_inflateIfNeededFor_a7421_10 : decode cJ5_inflateIfNeededFor_a7421 10 = .ok (.aload_n 1, 1) := dkAt dk_J5_inflateIfNeededFor_a7421 4 rfl
theorem dj_J5_inflateIfNeededFor_a7421_11 : decode cJ5_inflateIfNeededFor_a7421 11 = .ok (.invokevirtual 40, 3) := dkAt dk_J5_inflateIfNeededFor_a7421 5 rfl
theorem dj_J5_inflateIfNeededFor_a7421_14 : decode cJ5_inflateIfNeededFor_a7421 14 = .ok (.if_icmp .eq 7, 3) := dkAt dk_J5_inflateIfNeededFor_a7421 6 rfl
theorem dj_J5_inflateIfNeededFor_a7421_17 : decode cJ5_inflateIfNeededFor_a7421 17 = .ok (.aload_n 0, 1) := dkAt dk_J5_inflateIfNeededFor_a7421 7 rfl
theorem dj_J5_inflateIfNeededFor_a7421_18 : decode cJ5_inflateIfNeededFor_a7421 18 = .ok (.invokevirtual 195, 3) := dkAt dk_J5_inflateIfNeededFor_a7421 8 rfl
theorem dj_J5_inflateIfNeededFor_a7421_21 : decode cJ5_inflateIfNeededFor_a7421 21 = .ok (.return_, 1) := dkAt dk_J5_inflateIfNeededFor_a7421 9 rfl
theorem mw_J5_putStringAt_47b60 : MW yJ5_putStringAt_47b60 cJ5_putStringAt_47b60 3 none 2 := ⟨gd 49 (by decide +kernel) rfl, gd 607 (by decide +kernel) rfl, ⟨by decide, by decide⟩, by decide +kernel⟩
theorem mn_J5_putStringAt_47b60 : Gd (.instanceMethod yJ5_putStringAt_47b60) := gd 606 (by decide +kernel) rfl
theorem dj_J5_putStringAt_47b60_0 : decode cJ5_putStringAt_47b60 0 = .ok (.aload_n 0, 1) := dkAt dk_J5_putStringAt_47b60 0 rfl
theorem dj_J5_putStringAt_47b60_1 : decode cJ5_putStringAt_47b60 1 = .ok (.aload_n 2, 1) := dkAt dk_J5_putStringAt_47b60 1 rfl
theorem dj_J5_putStringAt_47b60_2 : decode cJ5_putStringAt_47b60 2 = .ok (.invokevirtual 397, 3) := dkAt dk_J5_putStringAt_47b60 2 rfl
theorem dj_J5_putStringAt_47b60_5 : decode cJ5_putStringAt_47b60 5 = .ok (.aload_n 2, 1) := dkAt dk_J5_putStringAt_47b60 3 rfl
theorem dj_J5_putStringAt_47b60_6 : decode cJ5_putStringAt_47b60 6 = .ok (.aload_n 0, 1) := dkAt dk_J5_putStringAt_47b60 4 rfl
theorem dj_J5_putStringAt_47b60_7 : decode cJ5_putStringAt_47b60 7 = .ok (.getfield 15, 3) := dkAt dk_J5_putStringAt_47b60 5 rfl
theorem dj_J5_putStringAt_47b60_10 : decode cJ5_putStringAt_47b60 10 = .ok (.iload_n 1, 1) := dkAt dk_J5_putStringAt_47b60 6 rfl
theorem dj_J5_putStringAt_47b60_11 : decode cJ5_putStringAt_47b60 11 = .ok (.aload_n 0, 1) := dkAt dk_J5_putStringAt_47b60 7 rfl
theorem dj_J5_putStringAt_47b60_12 : decode cJ5_putStringAt_47b60 12 = .ok (.getfield 22, 3) := dkAt dk_J5_putStringAt_47b60 8 rfl
theorem dj_J5_putStringAt_47b60_15 : decode cJ5_putStringAt_47b60 15 = .ok (.invokevirtual 399, 3) := dkAt dk_J5_putStringAt_47b60 9 rfl
theorem dj_J5_putStringAt_47b60_18 : decode cJ5_putStringAt_47b60 18 = .ok (.return_, 1) := dkAt dk_J5_putStringAt_47b60 10 rfl
theorem mw_J6_getChars_ba4f3 : MW yJ6_getChars_ba4f3 cJ6_getChars_ba4f3 7 (some .int) 3 := ⟨gd 60 (by decide +kernel) rfl, gd 672 (by decide +kernel) rfl, ⟨by decide, by decide⟩, by decide +kernel⟩
theorem ms_J6_getChars_ba4f3 : Gd (.static yJ6_getChars_ba4f3) := gd 671 (by decide +kernel) rfl
theorem dj_J6_getChars_ba4f3_0 : decode cJ6_getChars_ba4f3 0 = .ok (.iload_n 1, 1) := dkAt dk_J6_getChars_ba4f3 0 rfl
theorem dj_J6_getChars_ba4f3_1 : decode cJ6_getChars_ba4f3 1 = .ok (.istore 5, 2) := dkAt dk_J6_getChars_ba4f3 1 rfl
theorem dj_J6_getChars_ba4f3_3 : decode cJ6_getChars_ba4f3 3 = .ok (.iload_n 0, 1) := dkAt dk_J6_getChars_ba4f3 2 rfl
theorem dj_J6_getChars_ba4f3_4 : decode cJ6_getChars_ba4f3 4 = .ok (.ifCond .ge 7, 3) := dkAt dk_J6_getChars_ba4f3 3 rfl
theorem dj_J6_getChars_ba4f3_7 : decode cJ6_getChars_ba4f3 7 = .ok (.iconst 1, 1) := dkAt dk_J6_getChars_ba4f3 4 rfl
theorem dj_J6_getChars_ba4f3_8 : decode cJ6_getChars_ba4f3 8 = .ok (.goto 4, 3) := dkAt dk_J6_getChars_ba4f3 5 rfl
theorem dj_J6_getChars_ba4f3_11 : decode cJ6_getChars_ba4f3 11 = .ok (.iconst 0, 1) := dkAt dk_J6_getChars_ba4f3 6 rfl
theorem dj_J6_getChars_ba4f3_12 : decode cJ6_getChars_ba4f3 12 = .ok (.istore 6, 2) := dkAt dk_J6_getChars_ba4f3 7 rfl
theorem dj_J6_getChars_ba4f3_14 : decode cJ6_getChars_ba4f3 14 = .ok (.iload 6, 2) := dkAt dk_J6_getChars_ba4f3 8 rfl
theorem dj_J6_getChars_ba4f3_16 : decode cJ6_getChars_ba4f3 16 = .ok (.ifCond .ne 6, 3) := dkAt dk_J6_getChars_ba4f3 9 rfl
theorem dj_J6_getChars_ba4f3_19 : decode cJ6_getChars_ba4f3 19 = .ok (.iload_n 0, 1) := dkAt dk_J6_getChars_ba4f3 10 rfl
theorem dj_J6_getChars_ba4f3_20 : decode cJ6_getChars_ba4f3 20 = .ok (.ineg, 1) := dkAt dk_J6_getChars_ba4f3 11 rfl
theorem dj_J6_getChars_ba4f3_21 : decode cJ6_getChars_ba4f3 21 = .ok (.istore_n 0, 1) := dkAt dk_J6_getChars_ba4f3 12 rfl
theorem dj_J6_getChars_ba4f3_22 : decode cJ6_getChars_ba4f3 22 = .ok (.iload_n 0, 1) := dkAt dk_J6_getChars_ba4f3 13 rfl
theorem dj_J6_getChars_ba4f3_23 : decode cJ6_getChars_ba4f3 23 = .ok (.bipush (-100), 2) := dkAt dk_J6_getChars_ba4f3 14 rfl
theorem dj_J6_getChars_ba4f3_25 : decode cJ6_getChars_ba4f3 25 = .ok (.if_icmp .gt 47, 3) := dkAt dk_J6_getChars_ba4f3 15 rfl
theorem dj_J6_getChars_ba4f3_28 : decode cJ6_getChars_ba4f3 28 = .ok (.iload_n 0, 1) := dkAt dk_J6_getChars_ba4f3 16 rfl
theorem dj_J6_getChars_ba4f3_29 : decode cJ6_getChars_ba4f3 29 = .ok (.bipush 100, 2) := dkAt dk_J6_getChars_ba4f3 17 rfl
theorem dj_J6_getChars_ba4f3_31 : decode cJ6_getChars_ba4f3 31 = .ok (.idiv, 1) := dkAt dk_J6_getChars_ba4f3 18 rfl
theorem dj_J6_getChars_ba4f3_32 : decode cJ6_getChars_ba4f3 32 = .ok (.istore_n 3, 1) := dkAt dk_J6_getChars_ba4f3 19 rfl
theorem dj_J6_getChars_ba4f3_33 : decode cJ6_getChars_ba4f3 33 = .ok (.iload_n 3, 1) := dkAt dk_J6_getChars_ba4f3 20 rfl
theorem dj_J6_getChars_ba4f3_34 : decode cJ6_getChars_ba4f3 34 = .ok (.bipush 100, 2) := dkAt dk_J6_getChars_ba4f3 21 rfl
theorem dj_J6_getChars_ba4f3_36 : decode cJ6_getChars_ba4f3 36 = .ok (.imul, 1) := dkAt dk_J6_getChars_ba4f3 22 rfl
theorem dj_J6_getChars_ba4f3_37 : decode cJ6_getChars_ba4f3 37 = .ok (.iload_n 0, 1) := dkAt dk_J6_getChars_ba4f3 23 rfl
theorem dj_J6_getChars_ba4f3_38 : decode cJ6_getChars_ba4f3 38 = .ok (.isub, 1) := dkAt dk_J6_getChars_ba4f3 24 rfl
theorem dj_J6_getChars_ba4f3_39 : decode cJ6_getChars_ba4f3 39 = .ok (.istore 4, 2) := dkAt dk_J6_getChars_ba4f3 25 rfl
theorem dj_J6_getChars_ba4f3_41 : decode cJ6_getChars_ba4f3 41 = .ok (.iload_n 3, 1) := dkAt dk_J6_getChars_ba4f3 26 rfl
theorem dj_J6_getChars_ba4f3_42 : decode cJ6_getChars_ba4f3 42 = .ok (.istore_n 0, 1) := dkAt dk_J6_getChars_ba4f3 27 rfl
theorem dj_J6_getChars_ba4f3_43 : decode cJ6_getChars_ba4f3 43 = .ok (.aload_n 2, 1) := dkAt dk_J6_getChars_ba4f3 28 rfl
theorem dj_J6_getChars_ba4f3_44 : decode cJ6_getChars_ba4f3 44 = .ok (.iinc 5 (-1), 3) := dkAt dk_J6_getChars_ba4f3 29 rfl
theorem dj_J6_getChars_ba4f3_47 : decode cJ6_getChars_ba4f3 47 = .ok (.iload 5, 2) := dkAt dk_J6_getChars_ba4f3 30 rfl
theorem dj_J6_getChars_ba4f3_49 : decode cJ6_getChars_ba4f3 49 = .ok (.getstatic 83, 3) := dkAt dk_J6_getChars_ba4f3 31 rfl
theorem dj_J6_getChars_ba4f3_52 : decode cJ6_getChars_ba4f3 52 = .ok (.iload 4, 2) := dkAt dk_J6_getChars_ba4f3 32 rfl
theorem dj_J6_getChars_ba4f3_54 : decode cJ6_getChars_ba4f3 54 = .ok (.baload, 1) := dkAt dk_J6_getChars_ba4f3 33 rfl
theorem dj_J6_getChars_ba4f3_55 : decode cJ6_getChars_ba4f3 55 = .ok (.bastore, 1) := dkAt dk_J6_getChars_ba4f3 34 rfl
theorem dj_J6_getChars_ba4f3_56 : decode cJ6_getChars_ba4f3 56 = .ok (.aload_n 2, 1) := dkAt dk_J6_getChars_ba4f3 35 rfl
theorem dj_J6_getChars_ba4f3_57 : decode cJ6_getChars_ba4f3 57 = .ok (.iinc 5 (-1), 3) := dkAt dk_J6_getChars_ba4f3 36 rfl
theorem dj_J6_getChars_ba4f3_60 : decode cJ6_getChars_ba4f3 60 = .ok (.iload 5, 2) := dkAt dk_J6_getChars_ba4f3 37 rfl
theorem dj_J6_getChars_ba4f3_62 : decode cJ6_getChars_ba4f3 62 = .ok (.getstatic 87, 3) := dkAt dk_J6_getChars_ba4f3 38 rfl
theorem dj_J6_getChars_ba4f3_65 : decode cJ6_getChars_ba4f3 65 = .ok (.iload 4, 2) := dkAt dk_J6_getChars_ba4f3 39 rfl
theorem dj_J6_getChars_ba4f3_67 : decode cJ6_getChars_ba4f3 67 = .ok (.baload, 1) := dkAt dk_J6_getChars_ba4f3 40 rfl
theorem dj_J6_getChars_ba4f3_68 : decode cJ6_getChars_ba4f3 68 = .ok (.bastore, 1) := dkAt dk_J6_getChars_ba4f3 41 rfl
theorem dj_J6_getChars_ba4f3_69 : decode cJ6_getChars_ba4f3 69 = .ok (.goto (-47), 3) := dkAt dk_J6_getChars_ba4f3 42 rfl
theorem dj_J6_getChars_ba4f3_72 : decode cJ6_getChars_ba4f3 72 = .ok (.aload_n 2, 1) := dkAt dk_J6_getChars_ba4f3 43 rfl
theorem dj_J6_getChars_ba4f3_73 : decode cJ6_getChars_ba4f3 73 = .ok (.iinc 5 (-1), 3) := dkAt dk_J6_getChars_ba4f3 44 rfl
theorem dj_J6_getChars_ba4f3_76 : decode cJ6_getChars_ba4f3 76 = .ok (.iload 5, 2) := dkAt dk_J6_getChars_ba4f3 45 rfl
theorem dj_J6_getChars_ba4f3_78 : decode cJ6_getChars_ba4f3 78 = .ok (.getstatic 83, 3) := dkAt dk_J6_getChars_ba4f3 46 rfl
theorem dj_J6_getChars_ba4f3_81 : decode cJ6_getChars_ba4f3 81 = .ok (.iload_n 0, 1) := dkAt dk_J6_getChars_ba4f3 47 rfl
theorem dj_J6_getChars_ba4f3_82 : decode cJ6_getChars_ba4f3 82 = .ok (.ineg, 1) := dkAt dk_J6_getChars_ba4f3 48 rfl
theorem dj_J6_getChars_ba4f3_83 : decode cJ6_getChars_ba4f3 83 = .ok (.baload, 1) := dkAt dk_J6_getChars_ba4f3 49 rfl
theorem dj_J6_getChars_ba4f3_84 : decode cJ6_getChars_ba4f3 84 = .ok (.bastore, 1) := dkAt dk_J6_getChars_ba4f3 50 rfl
theorem dj_J6_getChars_ba4f3_85 : decode cJ6_getChars_ba4f3 85 = .ok (.iload_n 0, 1) := dkAt dk_J6_getChars_ba4f3 51 rfl
theorem dj_J6_getChars_ba4f3_86 : decode cJ6_getChars_ba4f3 86 = .ok (.bipush (-9), 2) := dkAt dk_J6_getChars_ba4f3 52 rfl
theorem dj_J6_getChars_ba4f3_88 : decode cJ6_getChars_ba4f3 88 = .ok (.if_icmp .ge 16, 3) := dkAt dk_J6_getChars_ba4f3 53 rfl
theorem dj_J6_getChars_ba4f3_91 : decode cJ6_getChars_ba4f3 91 = .ok (.aload_n 2, 1) := dkAt dk_J6_getChars_ba4f3 54 rfl
theorem dj_J6_getChars_ba4f3_92 : decode cJ6_getChars_ba4f3 92 = .ok (.iinc 5 (-1), 3) := dkAt dk_J6_getChars_ba4f3 55 rfl
theorem dj_J6_getChars_ba4f3_95 : decode cJ6_getChars_ba4f3 95 = .ok (.iload 5, 2) := dkAt dk_J6_getChars_ba4f3 56 rfl
theorem dj_J6_getChars_ba4f3_97 : decode cJ6_getChars_ba4f3 97 = .ok (.getstatic 87, 3) := dkAt dk_J6_getChars_ba4f3 57 rfl
theorem dj_J6_getChars_ba4f3_100 : decode cJ6_getChars_ba4f3 100 = .ok (.iload_n 0, 1) := dkAt dk_J6_getChars_ba4f3 58 rfl
theorem dj_J6_getChars_ba4f3_101 : decode cJ6_getChars_ba4f3 101 = .ok (.ineg, 1) := dkAt dk_J6_getChars_ba4f3 59 rfl
theorem dj_J6_getChars_ba4f3_102 : decode cJ6_getChars_ba4f3 102 = .ok (.baload, 1) := dkAt dk_J6_getChars_ba4f3 60 rfl
theorem dj_J6_getChars_ba4f3_103 : decode cJ6_getChars_ba4f3 103 = .ok (.bastore, 1) := dkAt dk_J6_getChars_ba4f3 61 rfl
theorem dj_J6_getChars_ba4f3_104 : decode cJ6_getChars_ba4f3 104 = .ok (.iload 6, 2) := dkAt dk_J6_getChars_ba4f3 62 rfl
theorem dj_J6_getChars_ba4f3_106 : decode cJ6_getChars_ba4f3 106 = .ok (.ifCond .eq 12, 3) := dkAt dk_J6_getChars_ba4f3 63 rfl
theorem dj_J6_getChars_ba4f3_109 : decode cJ6_getChars_ba4f3 109 = .ok (.aload_n 2, 1) := dkAt dk_J6_getChars_ba4f3 64 rfl
theorem dj_J6_getChars_ba4f3_110 : decode cJ6_getChars_ba4f3 110 = .ok (.iinc 5 (-1), 3) := dkAt dk_J6_getChars_ba4f3 65 rfl
theorem dj_J6_getChars_ba4f3_113 : decode cJ6_getChars_ba4f3 113 = .ok (.iload 5, 2) := dkAt dk_J6_getChars_ba4f3 66 rfl
theorem dj_J6_getChars_ba4f3_115 : decode cJ6_getChars_ba4f3 115 = .ok (.bipush 45, 2) := dkAt dk_J6_getChars_ba4f3 67 rfl
theorem dj_J6_getChars_ba4f3_117 : decode cJ6_getChars_ba4f3 117 = .ok (.bastore, 1) := dkAt dk_J6_getChars_ba4f3 68 rfl
theorem dj_J6_getChars_ba4f3_118 : decode cJ6_getChars_ba4f3 118 = .ok (.iload 5, 2) := dkAt dk_J6_getChars_ba4f3 69 rfl
theorem dj_J6_getChars_ba4f3_120 : decode cJ6_getChars_ba4f3 120 = .ok (.ireturn, 1) := dkAt dk_J6_getChars_ba4f3 70 rfl
theorem mw_J6_stringSize_0f7a4 : MW yJ6_stringSize_0f7a4 cJ6_stringSize_0f7a4 4 (some .int) 1 := ⟨gd 60 (by decide +kernel) rfl, gd 669 (by decide +kernel) rfl, ⟨by decide, by decide⟩, by decide +kernel⟩
theorem ms_J6_stringSize_0f7a4 : Gd (.static yJ6_stringSize_0f7a4) := gd 668 (by decide +kernel) rfl
theorem dj_J6_stringSize_0f7a4_0 : decode cJ6_stringSize_0f7a4 0 = .ok (.iconst 1, 1) := dkAt dk_J6_stringSize_0f7a4 0 rfl
theorem dj_J6_stringSize_0f7a4_1 : decode cJ6_stringSize_0f7a4 1 = .ok (.istore_n 1, 1) := dkAt dk_J6_stringSize_0f7a4 1 rfl
theorem dj_J6_stringSize_0f7a4_2 : decode cJ6_stringSize_0f7a4 2 = .ok (.iload_n 0, 1) := dkAt dk_J6_stringSize_0f7a4 2 rfl
theorem dj_J6_stringSize_0f7a4_3 : decode cJ6_stringSize_0f7a4 3 = .ok (.ifCond .lt 8, 3) := dkAt dk_J6_stringSize_0f7a4 3 rfl
theorem dj_J6_stringSize_0f7a4_6 : decode cJ6_stringSize_0f7a4 6 = .ok (.iconst 0, 1) := dkAt dk_J6_stringSize_0f7a4 4 rfl
theorem dj_J6_stringSize_0f7a4_7 : decode cJ6_stringSize_0f7a4 7 = .ok (.istore_n 1, 1) := dkAt dk_J6_stringSize_0f7a4 5 rfl
theorem dj_J6_stringSize_0f7a4_8 : decode cJ6_stringSize_0f7a4 8 = .ok (.iload_n 0, 1) := dkAt dk_J6_stringSize_0f7a4 6 rfl
theorem dj_J6_stringSize_0f7a4_9 : decode cJ6_stringSize_0f7a4 9 = .ok (.ineg, 1) := dkAt dk_J6_stringSize_0f7a4 7 rfl
theorem dj_J6_stringSize_0f7a4_10 : decode cJ6_stringSize_0f7a4 10 = .ok (.istore_n 0, 1) := dkAt dk_J6_stringSize_0f7a4 8 rfl
theorem dj_J6_stringSize_0f7a4_11 : decode cJ6_stringSize_0f7a4 11 = .ok (.bipush (-10), 2) := dkAt dk_J6_stringSize_0f7a4 9 rfl
theorem dj_J6_stringSize_0f7a4_13 : decode cJ6_stringSize_0f7a4 13 = .ok (.istore_n 2, 1) := dkAt dk_J6_stringSize_0f7a4 10 rfl
theorem dj_J6_stringSize_0f7a4_14 : decode cJ6_stringSize_0f7a4 14 = .ok (.iconst 1, 1) := dkAt dk_J6_stringSize_0f7a4 11 rfl
theorem dj_J6_stringSize_0f7a4_15 : decode cJ6_stringSize_0f7a4 15 = .ok (.istore_n 3, 1) := dkAt dk_J6_stringSize_0f7a4 12 rfl
theorem dj_J6_stringSize_0f7a4_16 : decode cJ6_stringSize_0f7a4 16 = .ok (.iload_n 3, 1) := dkAt dk_J6_stringSize_0f7a4 13 rfl
theorem dj_J6_stringSize_0f7a4_17 : decode cJ6_stringSize_0f7a4 17 = .ok (.bipush 10, 2) := dkAt dk_J6_stringSize_0f7a4 14 rfl
theorem dj_J6_stringSize_0f7a4_19 : decode cJ6_stringSize_0f7a4 19 = .ok (.if_icmp .ge 23, 3) := dkAt dk_J6_stringSize_0f7a4 15 rfl
theorem dj_J6_stringSize_0f7a4_22 : decode cJ6_stringSize_0f7a4 22 = .ok (.iload_n 0, 1) := dkAt dk_J6_stringSize_0f7a4 16 rfl
theorem dj_J6_stringSize_0f7a4_23 : decode cJ6_stringSize_0f7a4 23 = .ok (.iload_n 2, 1) := dkAt dk_J6_stringSize_0f7a4 17 rfl
theorem dj_J6_stringSize_0f7a4_24 : decode cJ6_stringSize_0f7a4 24 = .ok (.if_icmp .le 7, 3) := dkAt dk_J6_stringSize_0f7a4 18 rfl
theorem dj_J6_stringSize_0f7a4_27 : decode cJ6_stringSize_0f7a4 27 = .ok (.iload_n 3, 1) := dkAt dk_J6_stringSize_0f7a4 19 rfl
theorem dj_J6_stringSize_0f7a4_28 : decode cJ6_stringSize_0f7a4 28 = .ok (.iload_n 1, 1) := dkAt dk_J6_stringSize_0f7a4 20 rfl
theorem dj_J6_stringSize_0f7a4_29 : decode cJ6_stringSize_0f7a4 29 = .ok (.iadd, 1) := dkAt dk_J6_stringSize_0f7a4 21 rfl
theorem dj_J6_stringSize_0f7a4_30 : decode cJ6_stringSize_0f7a4 30 = .ok (.ireturn, 1) := dkAt dk_J6_stringSize_0f7a4 22 rfl
theorem dj_J6_stringSize_0f7a4_31 : decode cJ6_stringSize_0f7a4 31 = .ok (.bipush 10, 2) := dkAt dk_J6_stringSize_0f7a4 23 rfl
theorem dj_J6_stringSize_0f7a4_33 : decode cJ6_stringSize_0f7a4 33 = .ok (.iload_n 2, 1) := dkAt dk_J6_stringSize_0f7a4 24 rfl
theorem dj_J6_stringSize_0f7a4_34 : decode cJ6_stringSize_0f7a4 34 = .ok (.imul, 1) := dkAt dk_J6_stringSize_0f7a4 25 rfl
theorem dj_J6_stringSize_0f7a4_35 : decode cJ6_stringSize_0f7a4 35 = .ok (.istore_n 2, 1) := dkAt dk_J6_stringSize_0f7a4 26 rfl
theorem dj_J6_stringSize_0f7a4_36 : decode cJ6_stringSize_0f7a4 36 = .ok (.iinc 3 1, 3) := dkAt dk_J6_stringSize_0f7a4 27 rfl
theorem dj_J6_stringSize_0f7a4_39 : decode cJ6_stringSize_0f7a4 39 = .ok (.goto (-23), 3) := dkAt dk_J6_stringSize_0f7a4 28 rfl
theorem dj_J6_stringSize_0f7a4_42 : decode cJ6_stringSize_0f7a4 42 = .ok (.bipush 10, 2) := dkAt dk_J6_stringSize_0f7a4 29 rfl
theorem dj_J6_stringSize_0f7a4_44 : decode cJ6_stringSize_0f7a4 44 = .ok (.iload_n 1, 1) := dkAt dk_J6_stringSize_0f7a4 30 rfl
theorem dj_J6_stringSize_0f7a4_45 : decode cJ6_stringSize_0f7a4 45 = .ok (.iadd, 1) := dkAt dk_J6_stringSize_0f7a4 31 rfl
theorem dj_J6_stringSize_0f7a4_46 : decode cJ6_stringSize_0f7a4 46 = .ok (.ireturn, 1) := dkAt dk_J6_stringSize_0f7a4 32 rfl
theorem mw_J9_abs_0f7a4 : MW yJ9_abs_0f7a4 cJ9_abs_0f7a4 1 (some .int) 1 := ⟨gd 54 (by decide +kernel) rfl, gd 698 (by decide +kernel) rfl, ⟨by decide, by decide⟩, by decide +kernel⟩
theorem ms_J9_abs_0f7a4 : Gd (.static yJ9_abs_0f7a4) := gd 697 (by decide +kernel) rfl
theorem dj_J9_abs_0f7a4_0 : decode cJ9_abs_0f7a4 0 = .ok (.iload_n 0, 1) := dkAt dk_J9_abs_0f7a4 0 rfl
theorem dj_J9_abs_0f7a4_1 : decode cJ9_abs_0f7a4 1 = .ok (.ifCond .ge 8, 3) := dkAt dk_J9_abs_0f7a4 1 rfl
theorem dj_J9_abs_0f7a4_4 : decode cJ9_abs_0f7a4 4 = .ok (.iload_n 0, 1) := dkAt dk_J9_abs_0f7a4 2 rfl
theorem dj_J9_abs_0f7a4_5 : decode cJ9_abs_0f7a4 5 = .ok (.ineg, 1) := dkAt dk_J9_abs_0f7a4 3 rfl
theorem dj_J9_abs_0f7a4_6 : decode cJ9_abs_0f7a4 6 = .ok (.goto 4, 3) := dkAt dk_J9_abs_0f7a4 4 rfl
theorem dj_J9_abs_0f7a4_9 : decode cJ9_abs_0f7a4 9 = .ok (.iload_n 0, 1) := dkAt dk_J9_abs_0f7a4 5 rfl
theorem dj_J9_abs_0f7a4_10 : decode cJ9_abs_0f7a4 10 = .ok (.ireturn, 1) := dkAt dk_J9_abs_0f7a4 6 rfl
theorem mw_J9_max_7cf53 : MW yJ9_max_7cf53 cJ9_max_7cf53 2 (some .int) 2 := ⟨gd 54 (by decide +kernel) rfl, gd 551 (by decide +kernel) rfl, ⟨by decide, by decide⟩, by decide +kernel⟩
theorem ms_J9_max_7cf53 : Gd (.static yJ9_max_7cf53) := gd 550 (by decide +kernel) rfl
theorem dj_J9_max_7cf53_0 : decode cJ9_max_7cf53 0 = .ok (.iload_n 0, 1) := dkAt dk_J9_max_7cf53 0 rfl
theorem dj_J9_max_7cf53_1 : decode cJ9_max_7cf53 1 = .ok (.iload_n 1, 1) := dkAt dk_J9_max_7cf53 1 rfl
theorem dj_J9_max_7cf53_2 : decode cJ9_max_7cf53 2 = .ok (.if_icmp .lt 7, 3) := dkAt dk_J9_max_7cf53 2 rfl
theorem dj_J9_max_7cf53_5 : decode cJ9_max_7cf53 5 = .ok (.iload_n 0, 1) := dkAt dk_J9_max_7cf53 3 rfl
theorem dj_J9_max_7cf53_6 : decode cJ9_max_7cf53 6 = .ok (.goto 4, 3) := dkAt dk_J9_max_7cf53 4 rfl
theorem dj_J9_max_7cf53_9 : decode cJ9_max_7cf53 9 = .ok (.iload_n 1, 1) := dkAt dk_J9_max_7cf53 5 rfl
theorem dj_J9_max_7cf53_10 : decode cJ9_max_7cf53 10 = .ok (.ireturn, 1) := dkAt dk_J9_max_7cf53 6 rfl
theorem mw_J9_max_f86c9 : MW yJ9_max_f86c9 cJ9_max_f86c9 4 (some .long) 2 := ⟨gd 54 (by decide +kernel) rfl, gd 1254 (by decide +kernel) rfl, ⟨by decide, by decide⟩, by decide +kernel⟩
theorem ms_J9_max_f86c9 : Gd (.static yJ9_max_f86c9) := gd 1253 (by decide +kernel) rfl
theorem dj_J9_max_f86c9_0 : decode cJ9_max_f86c9 0 = .ok (.lload_n 0, 1) := dkAt dk_J9_max_f86c9 0 rfl
theorem dj_J9_max_f86c9_1 : decode cJ9_max_f86c9 1 = .ok (.lload_n 2, 1) := dkAt dk_J9_max_f86c9 1 rfl
theorem dj_J9_max_f86c9_2 : decode cJ9_max_f86c9 2 = .ok (.lcmp, 1) := dkAt dk_J9_max_f86c9 2 rfl
theorem dj_J9_max_f86c9_3 : decode cJ9_max_f86c9 3 = .ok (.ifCond .lt 7, 3) := dkAt dk_J9_max_f86c9 3 rfl
theorem dj_J9_max_f86c9_6 : decode cJ9_max_f86c9 6 = .ok (.lload_n 0, 1) := dkAt dk_J9_max_f86c9 4 rfl
theorem dj_J9_max_f86c9_7 : decode cJ9_max_f86c9 7 = .ok (.goto 4, 3) := dkAt dk_J9_max_f86c9 5 rfl
theorem dj_J9_max_f86c9_10 : decode cJ9_max_f86c9 10 = .ok (.lload_n 2, 1) := dkAt dk_J9_max_f86c9 6 rfl
theorem dj_J9_max_f86c9_11 : decode cJ9_max_f86c9 11 = .ok (.lreturn, 1) := dkAt dk_J9_max_f86c9 7 rfl
theorem mw_J9_min_7cf53 : MW yJ9_min_7cf53 cJ9_min_7cf53 2 (some .int) 2 := ⟨gd 54 (by decide +kernel) rfl, gd 568 (by decide +kernel) rfl, ⟨by decide, by decide⟩, by decide +kernel⟩
theorem ms_J9_min_7cf53 : Gd (.static yJ9_min_7cf53) := gd 567 (by decide +kernel) rfl
theorem dj_J9_min_7cf53_0 : decode cJ9_min_7cf53 0 = .ok (.iload_n 0, 1) := dkAt dk_J9_min_7cf53 0 rfl
theorem dj_J9_min_7cf53_1 : decode cJ9_min_7cf53 1 = .ok (.iload_n 1, 1) := dkAt dk_J9_min_7cf53 1 rfl
theorem dj_J9_min_7cf53_2 : decode cJ9_min_7cf53 2 = .ok (.if_icmp .gt 7, 3) := dkAt dk_J9_min_7cf53 2 rfl
theorem dj_J9_min_7cf53_5 : decode cJ9_min_7cf53 5 = .ok (.iload_n 0, 1) := dkAt dk_J9_min_7cf53 3 rfl
theorem dj_J9_min_7cf53_6 : decode cJ9_min_7cf53 6 = .ok (.goto 4, 3) := dkAt dk_J9_min_7cf53 4 rfl
theorem dj_J9_min_7cf53_9 : decode cJ9_min_7cf53 9 = .ok (.iload_n 1, 1) := dkAt dk_J9_min_7cf53 5 rfl
theorem dj_J9_min_7cf53_10 : decode cJ9_min_7cf53 10 = .ok (.ireturn, 1) := dkAt dk_J9_min_7cf53 6 rfl
theorem mw_J0_init_81219 : MW yJ0_init_81219 cJ0_init_81219 2 none 1 := ⟨gd 51 (by decide +kernel) rfl, gd 1614 (by decide +kernel) rfl, ⟨by decide, by decide⟩, by decide +kernel⟩
theorem mn_J0_init_81219 : Gd (.instanceMethod yJ0_init_81219) := gd 1613 (by decide +kernel) rfl
theorem dj_J0_init_81219_0 : decode cJ0_init_81219 0 = .ok (.aload_n 0, 1) := dkAt dk_J0_init_81219 0 rfl
theorem dj_J0_init_81219_1 : decode cJ0_init_81219 1 = .ok (.aload_n 1, 1) := dkAt dk_J0_init_81219 1 rfl
theorem dj_J0_init_81219_2 : decode cJ0_init_81219 2 = .ok (.aconst_null, 1) := dkAt dk_J0_init_81219 2 rfl
theorem dj_J0_init_81219_3 : decode cJ0_init_81219 3 = .ok (.invokespecial 489, 3) := dkAt dk_J0_init_81219 3 rfl
theorem dj_J0_init_81219_6 : decode cJ0_init_81219 6 = .ok (.return_, 1) := dkAt dk_J0_init_81219 4 rfl
theorem mw_J0_length_8abf5 : MW yJ0_length_8abf5 cJ0_length_8abf5 1 (some .int) 0 := ⟨gd 51 (by decide +kernel) rfl, gd 504 (by decide +kernel) rfl, ⟨by decide, by decide⟩, by decide +kernel⟩
theorem mi_J0_length_8abf5 : (Gd (.instanceMethod yJ0_length_8abf5) ∧ Gd (.selects yJ0_length_8abf5.cls yJ0_length_8abf5 yJ0_length_8abf5)) := ⟨gd 502 (by decide +kernel) rfl, gd 503 (by decide +kernel) rfl⟩
theorem dj_J0_length_8abf5_0 : decode cJ0_length_8abf5 0 = .ok (.aload_n 0, 1) := dkAt dk_J0_length_8abf5 0 rfl
theorem dj_J0_length_8abf5_1 : decode cJ0_length_8abf5 1 = .ok (.getfield 9, 3) := dkAt dk_J0_length_8abf5 1 rfl
theorem dj_J0_length_8abf5_4 : decode cJ0_length_8abf5 4 = .ok (.arraylength, 1) := dkAt dk_J0_length_8abf5 2 rfl
theorem dj_J0_length_8abf5_5 : decode cJ0_length_8abf5 5 = .ok (.aload_n 0, 1) := dkAt dk_J0_length_8abf5 3 rfl
theorem dj_J0_length_8abf5_6 : decode cJ0_length_8abf5 6 = .ok (.invokevirtual 335, 3) := dkAt dk_J0_length_8abf5 4 rfl
theorem dj_J0_length_8abf5_9 : decode cJ0_length_8abf5 9 = .ok (.ishr, 1) := dkAt dk_J0_length_8abf5 5 rfl
theorem dj_J0_length_8abf5_10 : decode cJ0_length_8abf5 10 = .ok (.ireturn, 1) := dkAt dk_J0_length_8abf5 6 rfl
theorem mw_J0_charAt_5068e : MW yJ0_charAt_5068e cJ0_charAt_5068e 2 (some .char) 1 := ⟨gd 51 (by decide +kernel) rfl, gd 820 (by decide +kernel) rfl, ⟨by decide, by decide⟩, by decide +kernel⟩
theorem mi_J0_charAt_5068e : (Gd (.instanceMethod yJ0_charAt_5068e) ∧ Gd (.selects yJ0_charAt_5068e.cls yJ0_charAt_5068e yJ0_charAt_5068e)) := ⟨gd 818 (by decide +kernel) rfl, gd 819 (by decide +kernel) rfl⟩
theorem dj_J0_charAt_5068e_0 : decode cJ0_charAt_5068e 0 = .ok (.aload_n 0, 1) := dkAt dk_J0_charAt_5068e 0 rfl
theorem dj_J0_charAt_5068e_1 : decode cJ0_charAt_5068e 1 = .ok (.invokevirtual 492, 3) := dkAt dk_J0_charAt_5068e 1 rfl
theorem dj_J0_charAt_5068e_4 : decode cJ0_charAt_5068e 4 = .ok (.ifCond .eq 12, 3) := dkAt dk_J0_charAt_5068e 2 rfl
theorem dj_J0_charAt_5068e_7 : decode cJ0_charAt_5068e 7 = .ok (.aload_n 0, 1) := dkAt dk_J0_charAt_5068e 3 rfl
theorem dj_J0_charAt_5068e_8 : decode cJ0_charAt_5068e 8 = .ok (.getfield 9, 3) := dkAt dk_J0_charAt_5068e 4 rfl
theorem dj_J0_charAt_5068e_11 : decode cJ0_charAt_5068e 11 = .ok (.iload_n 1, 1) := dkAt dk_J0_charAt_5068e 5 rfl
theorem dj_J0_charAt_5068e_12 : decode cJ0_charAt_5068e 12 = .ok (.invokestatic 495, 3) := dkAt dk_J0_charAt_5068e 6 rfl
theorem dj_J0_charAt_5068e_15 : decode cJ0_charAt_5068e 15 = .ok (.ireturn, 1) := dkAt dk_J0_charAt_5068e 7 rfl
theorem dj_J0_charAt_5068e_16 : decode cJ0_charAt_5068e 16 = .ok (.aload_n 0, 1) := dkAt dk_J0_charAt_5068e 8 rfl
theorem dj_J0_charAt_5068e_17 : decode cJ0_charAt_5068e 17 = .ok (.getfield 9, 3) := dkAt dk_J0_charAt_5068e 9 rfl
theorem dj_J0_charAt_5068e_20 : decode cJ0_charAt_5068e 20 = .ok (.iload_n 1, 1) := dkAt dk_J0_charAt_5068e 10 rfl
theorem dj_J0_charAt_5068e_21 : decode cJ0_charAt_5068e 21 = .ok (.invokestatic 498, 3) := dkAt dk_J0_charAt_5068e 11 rfl
theorem dj_J0_charAt_5068e_24 : decode cJ0_charAt_5068e 24 = .ok (.ireturn, 1) := dkAt dk_J0_charAt_5068e 12 rfl
theorem mw_J0_getBytes_840e7 : MW yJ0_getBytes_840e7 cJ0_getBytes_840e7 4 none 3 := ⟨gd 51 (by decide +kernel) rfl, gd 634 (by decide +kernel) rfl, ⟨by decide, by decide⟩, by decide +kernel⟩
theorem mi_J0_getBytes_840e7 : (Gd (.instanceMethod yJ0_getBytes_840e7) ∧ Gd (.selects yJ0_getBytes_840e7.cls yJ0_getBytes_840e7 yJ0_getBytes_840e7)) := ⟨gd 632 (by decide +kernel) rfl, gd 633 (by decide +kernel) rfl⟩
theorem dj_J0_getBytes_840e7_0 : decode cJ0_getBytes_840e7 0 = .ok (.aload_n 0, 1) := dkAt dk_J0_getBytes_840e7 0 rfl
theorem dj_J0_getBytes_840e7_1 : decode cJ0_getBytes_840e7 1 = .ok (.invokevirtual 335, 3) := dkAt dk_J0_getBytes_840e7 1 rfl
theorem dj_J0_getBytes_840e7_4 : decode cJ0_getBytes_840e7 4 = .ok (.iload_n 3, 1) := dkAt dk_J0_getBytes_840e7 2 rfl
theorem dj_J0_getBytes_840e7_5 : decode cJ0_getBytes_840e7 5 = .ok (.if_icmp .ne 23, 3) := dkAt dk_J0_getBytes_840e7 3 rfl
theorem dj_J0_getBytes_840e7_8 : decode cJ0_getBytes_840e7 8 = .ok (.aload_n 0, 1) := dkAt dk_J0_getBytes_840e7 4 rfl
theorem dj_J0_getBytes_840e7_9 : decode cJ0_getBytes_840e7 9 = .ok (.getfield 9, 3) := dkAt dk_J0_getBytes_840e7 5 rfl
theorem dj_J0_getBytes_840e7_12 : decode cJ0_getBytes_840e7 12 = .ok (.iconst 0, 1) := dkAt dk_J0_getBytes_840e7 6 rfl
theorem dj_J0_getBytes_840e7_13 : decode cJ0_getBytes_840e7 13 = .ok (.aload_n 1, 1) := dkAt dk_J0_getBytes_840e7 7 rfl
theorem dj_J0_getBytes_840e7_14 : decode cJ0_getBytes_840e7 14 = .ok (.iload_n 2, 1) := dkAt dk_J0_getBytes_840e7 8 rfl
theorem dj_J0_getBytes_840e7_15 : decode cJ0_getBytes_840e7 15 = .ok (.iload_n 3, 1) := dkAt dk_J0_getBytes_840e7 9 rfl
theorem dj_J0_getBytes_840e7_16 : decode cJ0_getBytes_840e7 16 = .ok (.ishl, 1) := dkAt dk_J0_getBytes_840e7 10 rfl
theorem dj_J0_getBytes_840e7_17 : decode cJ0_getBytes_840e7 17 = .ok (.aload_n 0, 1) := dkAt dk_J0_getBytes_840e7 11 rfl
theorem dj_J0_getBytes_840e7_18 : decode cJ0_getBytes_840e7 18 = .ok (.getfield 9, 3) := dkAt dk_J0_getBytes_840e7 12 rfl
theorem dj_J0_getBytes_840e7_21 : decode cJ0_getBytes_840e7 21 = .ok (.arraylength, 1) := dkAt dk_J0_getBytes_840e7 13 rfl
theorem dj_J0_getBytes_840e7_22 : decode cJ0_getBytes_840e7 22 = .ok (.invokestatic 212, 3) := dkAt dk_J0_getBytes_840e7 14 rfl
theorem dj_J0_getBytes_840e7_25 : decode cJ0_getBytes_840e7 25 = .ok (.goto 18, 3) := dkAt dk_J0_getBytes_840e7 15 rfl
theorem dj_J0_getBytes_840e7_28 : decode cJ0_getBytes_840e7 28 = .ok (.aload_n 0, 1) := dkAt dk_J0_getBytes_840e7 16 rfl
theorem dj_J0_getBytes_840e7_29 : decode cJ0_getBytes_840e7 29 = .ok (.getfield 9, 3) := dkAt dk_J0_getBytes_840e7 17 rfl
theorem dj_J0_getBytes_840e7_32 : decode cJ0_getBytes_840e7 32 = .ok (.iconst 0, 1) := dkAt dk_J0_getBytes_840e7 18 rfl
theorem dj_J0_getBytes_840e7_33 : decode cJ0_getBytes_840e7 33 = .ok (.aload_n 1, 1) := dkAt dk_J0_getBytes_840e7 19 rfl
theorem dj_J0_getBytes_840e7_34 : decode cJ0_getBytes_840e7 34 = .ok (.iload_n 2, 1) := dkAt dk_J0_getBytes_840e7 20 rfl
theorem dj_J0_getBytes_840e7_35 : decode cJ0_getBytes_840e7 35 = .ok (.aload_n 0, 1) := dkAt dk_J0_getBytes_840e7 21 rfl
theorem dj_J0_getBytes_840e7_36 : decode cJ0_getBytes_840e7 36 = .ok (.getfield 9, 3) := dkAt dk_J0_getBytes_840e7 22 rfl
theorem dj_J0_getBytes_840e7_39 : decode cJ0_getBytes_840e7 39 = .ok (.arraylength, 1) := dkAt dk_J0_getBytes_840e7 23 rfl
theorem dj_J0_getBytes_840e7_40 : decode cJ0_getBytes_840e7 40 = .ok (.invokestatic 106, 3) := dkAt dk_J0_getBytes_840e7 24 rfl
theorem dj_J0_getBytes_840e7_43 : decode cJ0_getBytes_840e7 43 = .ok (.return_, 1) := dkAt dk_J0_getBytes_840e7 25 rfl
theorem mw_J0_init_db425 : MW yJ0_init_db425 cJ0_init_db425 5 none 2 := ⟨gd 51 (by decide +kernel) rfl, gd 1617 (by decide +kernel) rfl, ⟨by decide, by decide⟩, by decide +kernel⟩
theorem mn_J0_init_db425 : Gd (.instanceMethod yJ0_init_db425) := gd 1616 (by decide +kernel) rfl
theorem dj_J0_init_db425_0 : decode cJ0_init_db425 0 = .ok (.aload_n 0, 1) := dkAt dk_J0_init_db425 0 rfl
theorem dj_J0_init_db425_1 : decode cJ0_init_db425 1 = .ok (.invokespecial 1, 3) := dkAt dk_J0_init_db425 1 rfl
theorem dj_J0_init_db425_4 : decode cJ0_init_db425 4 = .ok (.aload_n 1, 1) := dkAt dk_J0_init_db425 2 rfl
theorem dj_J0_init_db425_5 : decode cJ0_init_db425 5 = .ok (.invokevirtual 552, 3) := dkAt dk_J0_init_db425 3 rfl
theorem dj_J0_init_db425_8 : decode cJ0_init_db425 8 = .ok (.astore_n 3, 1) := dkAt dk_J0_init_db425 4 rfl
theorem dj_J0_init_db425_9 : decode cJ0_init_db425 9 = .ok (.aload_n 1, 1) := dkAt dk_J0_init_db425 5 rfl
theorem dj_J0_init_db425_10 : decode cJ0_init_db425 10 = .ok (.invokevirtual 549, 3) := dkAt dk_J0_init_db425 6 rfl
theorem dj_J0_init_db425_13 : decode cJ0_init_db425 13 = .ok (.istore 4, 2) := dkAt dk_J0_init_db425 7 rfl
theorem dj_J0_init_db425_15 : decode cJ0_init_db425 15 = .ok (.aload_n 1, 1) := dkAt dk_J0_init_db425 8 rfl
theorem dj_J0_init_db425_16 : decode cJ0_init_db425 16 = .ok (.invokevirtual 1047, 3) := dkAt dk_J0_init_db425 9 rfl
theorem dj_J0_init_db425_19 : decode cJ0_init_db425 19 = .ok (.ifCond .eq 22, 3) := dkAt dk_J0_init_db425 10 rfl
theorem dj_J0_init_db425_22 : decode cJ0_init_db425 22 = .ok (.aload_n 0, 1) := dkAt dk_J0_init_db425 11 rfl
theorem dj_J0_init_db425_23 : decode cJ0_init_db425 23 = .ok (.iconst 0, 1) := dkAt dk_J0_init_db425 12 rfl
theorem dj_J0_init_db425_24 : decode cJ0_init_db425 24 = .ok (.putfield 15, 3) := dkAt dk_J0_init_db425 13 rfl
theorem dj_J0_init_db425_27 : decode cJ0_init_db425 27 = .ok (.aload_n 0, 1) := dkAt dk_J0_init_db425 14 rfl
theorem dj_J0_init_db425_28 : decode cJ0_init_db425 28 = .ok (.aload_n 3, 1) := dkAt dk_J0_init_db425 15 rfl
theorem dj_J0_init_db425_29 : decode cJ0_init_db425 29 = .ok (.iconst 0, 1) := dkAt dk_J0_init_db425 16 rfl
theorem dj_J0_init_db425_30 : decode cJ0_init_db425 30 = .ok (.iload 4, 2) := dkAt dk_J0_init_db425 17 rfl
theorem dj_J0_init_db425_32 : decode cJ0_init_db425 32 = .ok (.invokestatic 54, 3) := dkAt dk_J0_init_db425 18 rfl
theorem dj_J0_init_db425_35 : decode cJ0_init_db425 35 = .ok (.putfield 9, 3) := dkAt dk_J0_init_db425 19 rfl
theorem dj_J0_init_db425_38 : decode cJ0_init_db425 38 = .ok (.goto 59, 3) := dkAt dk_J0_init_db425 20 rfl
theorem dj_J0_init_db425_41 : decode cJ0_init_db425 41 = .ok (.getstatic 38, 3) := dkAt dk_J0_init_db425 21 rfl
theorem dj_J0_init_db425_44 : decode cJ0_init_db425 44 = .ok (.ifCond .eq 35, 3) := dkAt dk_J0_init_db425 22 rfl
theorem dj_J0_init_db425_47 : decode cJ0_init_db425 47 = .ok (.aload_n 1, 1) := dkAt dk_J0_init_db425 23 rfl
theorem dj_J0_init_db425_48 : decode cJ0_init_db425 48 = .ok (.getfield 1048, 3) := dkAt dk_J0_init_db425 24 rfl
theorem dj_J0_init_db425_51 : decode cJ0_init_db425 51 = .ok (.ifCond .eq 28, 3) := dkAt dk_J0_init_db425 25 rfl
theorem dj_J0_init_db425_54 : decode cJ0_init_db425 54 = .ok (.aload_n 0, 1) := dkAt dk_J0_init_db425 26 rfl
theorem dj_J0_init_db425_55 : decode cJ0_init_db425 55 = .ok (.aload_n 3, 1) := dkAt dk_J0_init_db425 27 rfl
theorem dj_J0_init_db425_56 : decode cJ0_init_db425 56 = .ok (.iconst 0, 1) := dkAt dk_J0_init_db425 28 rfl
theorem dj_J0_init_db425_57 : decode cJ0_init_db425 57 = .ok (.iload 4, 2) := dkAt dk_J0_init_db425 29 rfl
theorem dj_J0_init_db425_59 : decode cJ0_init_db425 59 = .ok (.invokestatic 1051, 3) := dkAt dk_J0_init_db425 30 rfl
theorem dj_J0_init_db425_62 : decode cJ0_init_db425 62 = .ok (.putfield 9, 3) := dkAt dk_J0_init_db425 31 rfl
theorem dj_J0_init_db425_65 : decode cJ0_init_db425 65 = .ok (.aload_n 0, 1) := dkAt dk_J0_init_db425 32 rfl
theorem dj_J0_init_db425_66 : decode cJ0_init_db425 66 = .ok (.aload_n 0, 1) := dkAt dk_J0_init_db425 33 rfl
theorem dj_J0_init_db425_67 : decode cJ0_init_db425 67 = .ok (.getfield 9, 3) := dkAt dk_J0_init_db425 34 rfl
theorem dj_J0_init_db425_70 : decode cJ0_init_db425 70 = .ok (.iload 4, 2) := dkAt dk_J0_init_db425 35 rfl
theorem dj_J0_init_db425_72 : decode cJ0_init_db425 72 = .ok (.invokestatic 47, 3) := dkAt dk_J0_init_db425 36 rfl
theorem dj_J0_init_db425_75 : decode cJ0_init_db425 75 = .ok (.putfield 15, 3) := dkAt dk_J0_init_db425 37 rfl
theorem dj_J0_init_db425_78 : decode cJ0_init_db425 78 = .ok (.return_, 1) := dkAt dk_J0_init_db425 38 rfl
theorem dj_J0_init_db425_79 : decode cJ0_init_db425 79 = .ok (.aload_n 0, 1) := dkAt dk_J0_init_db425 39 rfl
theorem dj_J0_init_db425_80 : decode cJ0_init_db425 80 = .ok (.iconst 1, 1) := dkAt dk_J0_init_db425 40 rfl
theorem dj_J0_init_db425_81 : decode cJ0_init_db425 81 = .ok (.putfield 15, 3) := dkAt dk_J0_init_db425 41 rfl
theorem dj_J0_init_db425_84 : decode cJ0_init_db425 84 = .ok (.aload_n 0, 1) := dkAt dk_J0_init_db425 42 rfl
theorem dj_J0_init_db425_85 : decode cJ0_init_db425 85 = .ok (.aload_n 3, 1) := dkAt dk_J0_init_db425 43 rfl
theorem dj_J0_init_db425_86 : decode cJ0_init_db425 86 = .ok (.iconst 0, 1) := dkAt dk_J0_init_db425 44 rfl
theorem dj_J0_init_db425_87 : decode cJ0_init_db425 87 = .ok (.iload 4, 2) := dkAt dk_J0_init_db425 45 rfl
theorem dj_J0_init_db425_89 : decode cJ0_init_db425 89 = .ok (.iconst 1, 1) := dkAt dk_J0_init_db425 46 rfl
theorem dj_J0_init_db425_90 : decode cJ0_init_db425 90 = .ok (.ishl, 1) := dkAt dk_J0_init_db425 47 rfl
theorem dj_J0_init_db425_91 : decode cJ0_init_db425 91 = .ok (.invokestatic 54, 3) := dkAt dk_J0_init_db425 48 rfl
theorem dj_J0_init_db425_94 : decode cJ0_init_db425 94 = .ok (.putfield 9, 3) := dkAt dk_J0_init_db425 49 rfl
theorem dj_J0_init_db425_97 : decode cJ0_init_db425 97 = .ok (.return_, 1) := dkAt dk_J0_init_db425 50 rfl
theorem mw_J0_coder_7d493 : MW yJ0_coder_7d493 cJ0_coder_7d493 1 (some .byte) 0 := ⟨gd 51 (by decide +kernel) rfl, gd 508 (by decide +kernel) rfl, ⟨by decide, by decide⟩, by decide +kernel⟩
theorem mi_J0_coder_7d493 : (Gd (.instanceMethod yJ0_coder_7d493) ∧ Gd (.selects yJ0_coder_7d493.cls yJ0_coder_7d493 yJ0_coder_7d493)) := ⟨gd 506 (by decide +kernel) rfl, gd 507 (by decide +kernel) rfl⟩
theorem dj_J0_coder_7d493_0 : decode cJ0_coder_7d493 0 = .ok (.getstatic 38, 3) := dkAt dk_J0_coder_7d493 0 rfl
theorem dj_J0_coder_7d493_3 : decode cJ0_coder_7d493 3 = .ok (.ifCond .eq 10, 3) := dkAt dk_J0_coder_7d493 1 rfl
theorem dj_J0_coder_7d493_6 : decode cJ0_coder_7d493 6 = .ok (.aload_n 0, 1) := dkAt dk_J0_coder_7d493 2 rfl
theorem dj_J0_coder_7d493_7 : decode cJ0_coder_7d493 7 = .ok (.getfield 15, 3) := dkAt dk_J0_coder_7d493 3 rfl
theorem dj_J0_coder_7d493_10 : decode cJ0_coder_7d493 10 = .ok (.goto 4, 3) := dkAt dk_J0_coder_7d493 4 rfl
theorem dj_J0_coder_7d493_13 : decode cJ0_coder_7d493 13 = .ok (.iconst 1, 1) := dkAt dk_J0_coder_7d493 5 rfl
theorem dj_J0_coder_7d493_14 : decode cJ0_coder_7d493 14 = .ok (.ireturn, 1) := dkAt dk_J0_coder_7d493 6 rfl
theorem mw_J0_isLatin1_aae02 : MW yJ0_isLatin1_aae02 cJ0_isLatin1_aae02 1 (some .boolean) 0 := ⟨gd 51 (by decide +kernel) rfl, gd 824 (by decide +kernel) rfl, ⟨by decide, by decide⟩, by decide +kernel⟩
theorem mi_J0_isLatin1_aae02 : (Gd (.instanceMethod yJ0_isLatin1_aae02) ∧ Gd (.selects yJ0_isLatin1_aae02.cls yJ0_isLatin1_aae02 yJ0_isLatin1_aae02)) := ⟨gd 822 (by decide +kernel) rfl, gd 823 (by decide +kernel) rfl⟩
theorem dj_J0_isLatin1_aae02_0 : decode cJ0_isLatin1_aae02 0 = .ok (.getstatic 38, 3) := dkAt dk_J0_isLatin1_aae02 0 rfl
theorem dj_J0_isLatin1_aae02_3 : decode cJ0_isLatin1_aae02 3 = .ok (.ifCond .eq 14, 3) := dkAt dk_J0_isLatin1_aae02 1 rfl
theorem dj_J0_isLatin1_aae02_6 : decode cJ0_isLatin1_aae02 6 = .ok (.aload_n 0, 1) := dkAt dk_J0_isLatin1_aae02 2 rfl
theorem dj_J0_isLatin1_aae02_7 : decode cJ0_isLatin1_aae02 7 = .ok (.getfield 15, 3) := dkAt dk_J0_isLatin1_aae02 3 rfl
theorem dj_J0_isLatin1_aae02_10 : decode cJ0_isLatin1_aae02 10 = .ok (.ifCond .ne 7, 3) := dkAt dk_J0_isLatin1_aae02 4 rfl
theorem dj_J0_isLatin1_aae02_13 : decode cJ0_isLatin1_aae02 13 = .ok (.iconst 1, 1) := dkAt dk_J0_isLatin1_aae02 5 rfl
theorem dj_J0_isLatin1_aae02_14 : decode cJ0_isLatin1_aae02 14 = .ok (.goto 4, 3) := dkAt dk_J0_isLatin1_aae02 6 rfl
theorem dj_J0_isLatin1_aae02_17 : decode cJ0_isLatin1_aae02 17 = .ok (.iconst 0, 1) := dkAt dk_J0_isLatin1_aae02 7 rfl
theorem dj_J0_isLatin1_aae02_18 : decode cJ0_isLatin1_aae02 18 = .ok (.ireturn, 1) := dkAt dk_J0_isLatin1_aae02 8 rfl
theorem mw_J0_checkIndex_df160 : MW yJ0_checkIndex_df160 cJ0_checkIndex_df160 2 none 2 := ⟨gd 51 (by decide +kernel) rfl, gd 718 (by decide +kernel) rfl, ⟨by decide, by decide⟩, by decide +kernel⟩
theorem ms_J0_checkIndex_df160 : Gd (.static yJ0_checkIndex_df160) := gd 717 (by decide +kernel) rfl
theorem dj_J0_checkIndex_df160_0 : decode cJ0_checkIndex_df160 0 = .ok (.iload_n 0, 1) := dkAt dk_J0_checkIndex_df160 0 rfl
theorem dj_J0_checkIndex_df160_1 : decode cJ0_checkIndex_df160 1 = .ok (.iload_n 1, 1) := dkAt dk_J0_checkIndex_df160 1 rfl
theorem dj_J0_checkIndex_df160_2 : decode cJ0_checkIndex_df160 2 = .ok (.getstatic 1053, 3) := dkAt dk_J0_checkIndex_df160 2 rfl
theorem dj_J0_checkIndex_df160_5 : decode cJ0_checkIndex_df160 5 = .ok (.invokestatic 1059, 3) := dkAt dk_J0_checkIndex_df160 3 rfl
theorem dj_J0_checkIndex_df160_8 : decode cJ0_checkIndex_df160 8 = .ok (.pop, 1) := dkAt dk_J0_checkIndex_df160 4 rfl
theorem dj_J0_checkIndex_df160_9 : decode cJ0_checkIndex_df160 9 = .ok (.return_, 1) := dkAt dk_J0_checkIndex_df160 5 rfl
theorem mw_J0_checkBoundsOffCount_cabcc : MW yJ0_checkBoundsOffCount_cabcc cJ0_checkBoundsOffCount_cabcc 3 (some .int) 3 := ⟨gd 51 (by decide +kernel) rfl, gd 627 (by decide +kernel) rfl, ⟨by decide, by decide⟩, by decide +kernel⟩
theorem ms_J0_checkBoundsOffCount_cabcc : Gd (.static yJ0_checkBoundsOffCount_cabcc) := gd 626 (by decide +kernel) rfl
theorem dj_J0_checkBoundsOffCount_cabcc_0 : decode cJ0_checkBoundsOffCount_cabcc 0 = .ok (.iload_n 0, 1) := dkAt dk_J0_checkBoundsOffCount_cabcc 0 rfl
theorem dj_J0_checkBoundsOffCount_cabcc_1 : decode cJ0_checkBoundsOffCount_cabcc 1 = .ok (.iload_n 1, 1) := dkAt dk_J0_checkBoundsOffCount_cabcc 1 rfl
theorem dj_J0_checkBoundsOffCount_cabcc_2 : decode cJ0_checkBoundsOffCount_cabcc 2 = .ok (.iload_n 2, 1) := dkAt dk_J0_checkBoundsOffCount_cabcc 2 rfl
theorem dj_J0_checkBoundsOffCount_cabcc_3 : decode cJ0_checkBoundsOffCount_cabcc 3 = .ok (.getstatic 1053, 3) := dkAt dk_J0_checkBoundsOffCount_cabcc 3 rfl
theorem dj_J0_checkBoundsOffCount_cabcc_6 : decode cJ0_checkBoundsOffCount_cabcc 6 = .ok (.invokestatic 1065, 3) := dkAt dk_J0_checkBoundsOffCount_cabcc 4 rfl
theorem dj_J0_checkBoundsOffCount_cabcc_9 : decode cJ0_checkBoundsOffCount_cabcc 9 = .ok (.ireturn, 1) := dkAt dk_J0_checkBoundsOffCount_cabcc 5 rfl
theorem mw_J0_checkBoundsBeginEnd_23922 : MW yJ0_checkBoundsBeginEnd_23922 cJ0_checkBoundsBeginEnd_23922 3 none 3 := ⟨gd 51 (by decide +kernel) rfl, gd 589 (by decide +kernel) rfl, ⟨by decide, by decide⟩, by decide +kernel⟩
theorem ms_J0_checkBoundsBeginEnd_23922 : Gd (.static yJ0_checkBoundsBeginEnd_23922) := gd 588 (by decide +kernel) rfl
theorem dj_J0_checkBoundsBeginEnd_23922_0 : decode cJ0_checkBoundsBeginEnd_23922 0 = .ok (.iload_n 0, 1) := dkAt dk_J0_checkBoundsBeginEnd_23922 0 rfl
theorem dj_J0_checkBoundsBeginEnd_23922_1 : decode cJ0_checkBoundsBeginEnd_23922 1 = .ok (.iload_n 1, 1) := dkAt dk_J0_checkBoundsBeginEnd_23922 1 rfl
theorem dj_J0_checkBoundsBeginEnd_23922_2 : decode cJ0_checkBoundsBeginEnd_23922 2 = .ok (.iload_n 2, 1) := dkAt dk_J0_checkBoundsBeginEnd_23922 2 rfl
theorem dj_J0_checkBoundsBeginEnd_23922_3 : decode cJ0_checkBoundsBeginEnd_23922 3 = .ok (.getstatic 1053, 3) := dkAt dk_J0_checkBoundsBeginEnd_23922 3 rfl
theorem dj_J0_checkBoundsBeginEnd_23922_6 : decode cJ0_checkBoundsBeginEnd_23922 6 = .ok (.invokestatic 1062, 3) := dkAt dk_J0_checkBoundsBeginEnd_23922 4 rfl
theorem dj_J0_checkBoundsBeginEnd_23922_9 : decode cJ0_checkBoundsBeginEnd_23922 9 = .ok (.pop, 1) := dkAt dk_J0_checkBoundsBeginEnd_23922 5 rfl
theorem dj_J0_checkBoundsBeginEnd_23922_10 : decode cJ0_checkBoundsBeginEnd_23922 10 = .ok (.return_, 1) := dkAt dk_J0_checkBoundsBeginEnd_23922 6 rfl
theorem mw_J4_init_da8c8 : MW yJ4_init_da8c8 cJ4_init_da8c8 1 none 0 := ⟨gd 50 (by decide +kernel) rfl, gd 1646 (by decide +kernel) rfl, ⟨by decide, by decide⟩, by decide +kernel⟩
theorem mn_J4_init_da8c8 : Gd (.instanceMethod yJ4_init_da8c8) := gd 1645 (by decide +kernel) rfl
theorem dj_J4_init_da8c8_0 : decode cJ4_init_da8c8 0 = .ok (.aload_n 0, 1) := dkAt dk_J4_init_da8c8 0 rfl
theorem dj_J4_init_da8c8_1 : decode cJ4_init_da8c8 1 = .ok (.bipush 16, 2) := dkAt dk_J4_init_da8c8 1 rfl
theorem dj_J4_init_da8c8_3 : decode cJ4_init_da8c8 3 = .ok (.invokespecial 1, 3) := dkAt dk_J4_init_da8c8 2 rfl
theorem dj_J4_init_da8c8_6 : decode cJ4_init_da8c8 6 = .ok (.return_, 1) := dkAt dk_J4_init_da8c8 3 rfl
theorem mw_J4_init_a7421 : MW yJ4_init_a7421 cJ4_init_a7421 2 none 1 := ⟨gd 50 (by decide +kernel) rfl, gd 496 (by decide +kernel) rfl, ⟨by decide, by decide⟩, by decide +kernel⟩
theorem mn_J4_init_a7421 : Gd (.instanceMethod yJ4_init_a7421) := gd 495 (by decide +kernel) rfl
theorem dj_J4_init_a7421_0 : decode cJ4_init_a7421 0 = .ok (.aload_n 0, 1) := dkAt dk_J4_init_a7421 0 rfl
theorem dj_J4_init_a7421_1 : decode cJ4_init_a7421 1 = .ok (.aload_n 1, 1) := dkAt dk_J4_init_a7421 1 rfl
theorem dj_J4_init_a7421_2 : decode cJ4_init_a7421 2 = .ok (.invokespecial 7, 3) := dkAt dk_J4_init_a7421 2 rfl
theorem dj_J4_init_a7421_5 : decode cJ4_init_a7421 5 = .ok (.return_, 1) := dkAt dk_J4_init_a7421 3 rfl
theorem mw_J4_append_15ec4 : MW yJ4_append_15ec4 cJ4_append_15ec4 2 (some (.object "java/lang/StringBuilder")) 1 := ⟨gd 50 (by decide +kernel) rfl, gd 530 (by decide +kernel) rfl, ⟨by decide, by decide⟩, by decide +kernel⟩
theorem mi_J4_append_15ec4 : (Gd (.instanceMethod yJ4_append_15ec4) ∧ Gd (.selects yJ4_append_15ec4.cls yJ4_append_15ec4 yJ4_append_15ec4)) := ⟨gd 528 (by decide +kernel) rfl, gd 529 (by decide +kernel) rfl⟩
theorem dj_J4_append_15ec4_0 : decode cJ4_append_15ec4 0 = .ok (.aload_n 0, 1) := dkAt dk_J4_append_15ec4 0 rfl
theorem dj_J4_append_15ec4_1 : decode cJ4_append_15ec4 1 = .ok (.aload_n 1, 1) := dkAt dk_J4_append_15ec4 1 rfl
theorem dj_J4_append_15ec4_2 : decode cJ4_append_15ec4 2 = .ok (.invokespecial 29, 3) := dkAt dk_J4_append_15ec4 2 rfl
theorem dj_J4_append_15ec4_5 : decode cJ4_append_15ec4 5 = .ok (.pop, 1) := dkAt dk_J4_append_15ec4 3 rfl
theorem dj_J4_append_15ec4_6 : decode cJ4_append_15ec4 6 = .ok (.aload_n 0, 1) := dkAt dk_J4_append_15ec4 4 rfl
theorem dj_J4_append_15ec4_7 : decode cJ4_append_15ec4 7 = .ok (.areturn, 1) := dkAt dk_J4_append_15ec4 5 rfl
theorem mw_J4_append_cf468 : MW yJ4_append_cf468 cJ4_append_cf468 2 (some (.object "java/lang/StringBuilder")) 1 := ⟨gd 50 (by decide +kernel) rfl, gd 703 (by decide +kernel) rfl, ⟨by decide, by decide⟩, by decide +kernel⟩
theorem mi_J4_append_cf468 : (Gd (.instanceMethod yJ4_append_cf468) ∧ Gd (.selects yJ4_append_cf468.cls yJ4_append_cf468 yJ4_append_cf468)) := ⟨gd 701 (by decide +kernel) rfl, gd 702 (by decide +kernel) rfl⟩
theorem dj_J4_append_cf468_0 : decode cJ4_append_cf468 0 = .ok (.aload_n 0, 1) := dkAt dk_J4_append_cf468 0 rfl
theorem dj_J4_append_cf468_1 : decode cJ4_append_cf468 1 = .ok (.iload_n 1, 1) := dkAt dk_J4_append_cf468 1 rfl
theorem dj_J4_append_cf468_2 : decode cJ4_append_cf468 2 = .ok (.invokespecial 50, 3) := dkAt dk_J4_append_cf468 2 rfl
theorem dj_J4_append_cf468_5 : decode cJ4_append_cf468 5 = .ok (.pop, 1) := dkAt dk_J4_append_cf468 3 rfl
theorem dj_J4_append_cf468_6 : decode cJ4_append_cf468 6 = .ok (.aload_n 0, 1) := dkAt dk_J4_append_cf468 4 rfl
theorem dj_J4_append_cf468_7 : decode cJ4_append_cf468 7 = .ok (.areturn, 1) := dkAt dk_J4_append_cf468 5 rfl
theorem mw_J4_append_bf812 : MW yJ4_append_bf812 cJ4_append_bf812 2 (some (.object "java/lang/StringBuilder")) 1 := ⟨gd 50 (by decide +kernel) rfl, gd 663 (by decide +kernel) rfl, ⟨by decide, by decide⟩, by decide +kernel⟩
theorem mi_J4_append_bf812 : (Gd (.instanceMethod yJ4_append_bf812) ∧ Gd (.selects yJ4_append_bf812.cls yJ4_append_bf812 yJ4_append_bf812)) := ⟨gd 661 (by decide +kernel) rfl, gd 662 (by decide +kernel) rfl⟩
theorem dj_J4_append_bf812_0 : decode cJ4_append_bf812 0 = .ok (.aload_n 0, 1) := dkAt dk_J4_append_bf812 0 rfl
theorem dj_J4_append_bf812_1 : decode cJ4_append_bf812 1 = .ok (.iload_n 1, 1) := dkAt dk_J4_append_bf812 1 rfl
theorem dj_J4_append_bf812_2 : decode cJ4_append_bf812 2 = .ok (.invokespecial 53, 3) := dkAt dk_J4_append_bf812 2 rfl
theorem dj_J4_append_bf812_5 : decode cJ4_append_bf812 5 = .ok (.pop, 1) := dkAt dk_J4_append_bf812 3 rfl
theorem dj_J4_append_bf812_6 : decode cJ4_append_bf812 6 = .ok (.aload_n 0, 1) := dkAt dk_J4_append_bf812 4 rfl
theorem dj_J4_append_bf812_7 : decode cJ4_append_bf812 7 = .ok (.areturn, 1) := dkAt dk_J4_append_bf812 5 rfl
theorem mw_J4_toString_0e30d : MW yJ4_toString_0e30d cJ4_toString_0e30d 1 (some (.object "java/lang/String")) 0 := ⟨gd 50 (by decide +kernel) rfl, gd 1609 (by decide +kernel) rfl, ⟨by decide, by decide⟩, by decide +kernel⟩
theorem mi_J4_toString_0e30d : (Gd (.instanceMethod yJ4_toString_0e30d) ∧ Gd (.selects yJ4_toString_0e30d.cls yJ4_toString_0e30d yJ4_toString_0e30d)) := ⟨gd 1607 (by decide +kernel) rfl, gd 1608 (by decide +kernel) rfl⟩
theorem dj_J4_toString_0e30d_0 : decode cJ4_toString_0e30d 0 = .ok (.new 18, 3) := dkAt dk_J4_toString_0e30d 0 rfl
theorem dj_J4_toString_0e30d_3 : decode cJ4_toString_0e30d 3 = .ok (.dup, 1) := dkAt dk_J4_toString_0e30d 1 rfl
theorem dj_J4_toString_0e30d_4 : decode cJ4_toString_0e30d 4 = .ok (.aload_n 0, 1) := dkAt dk_J4_toString_0e30d 2 rfl
theorem dj_J4_toString_0e30d_5 : decode cJ4_toString_0e30d 5 = .ok (.invokespecial 137, 3) := dkAt dk_J4_toString_0e30d 3 rfl
theorem dj_J4_toString_0e30d_8 : decode cJ4_toString_0e30d 8 = .ok (.areturn, 1) := dkAt dk_J4_toString_0e30d 4 rfl
theorem mw_J4_append_cf1ce : MW yJ4_append_cf1ce cJ4_append_cf1ce 2 (some (.object "java/lang/AbstractStringBuilder")) 1 := ⟨gd 50 (by decide +kernel) rfl, gd 526 (by decide +kernel) rfl, ⟨by decide, by decide⟩, by decide +kernel⟩
theorem mn_J4_append_cf1ce : Gd (.instanceMethod yJ4_append_cf1ce) := gd 525 (by decide +kernel) rfl
theorem dj_J4_append_cf1ce_0 : decode cJ4_append_cf1ce 0 = .ok (.aload_n 0, 1) := dkAt dk_J4_append_cf1ce 0 rfl
theorem dj_J4_append_cf1ce_1 : decode cJ4_append_cf1ce 1 = .ok (.aload_n 1, 1) := dkAt dk_J4_append_cf1ce 1 rfl
theorem dj_J4_append_cf1ce_2 : decode cJ4_append_cf1ce 2 = .ok (.invokevirtual 23, 3) := dkAt dk_J4_append_cf1ce 2 rfl
theorem dj_J4_append_cf1ce_5 : decode cJ4_append_cf1ce 5 = .ok (.areturn, 1) := dkAt dk_J4_append_cf1ce 3 rfl
theorem mw_J4_length_8abf5 : MW yJ4_length_8abf5 cJ4_length_8abf5 1 (some .int) 0 := ⟨gd 50 (by decide +kernel) rfl, gd 1629 (by decide +kernel) rfl, ⟨by decide, by decide⟩, by decide +kernel⟩
theorem mn_J4_length_8abf5 : Gd (.instanceMethod yJ4_length_8abf5) := gd 1628 (by decide +kernel) rfl
theorem dj_J4_length_8abf5_0 : decode cJ4_length_8abf5 0 = .ok (.aload_n 0, 1) := dkAt dk_J4_length_8abf5 0 rfl
theorem dj_J4_length_8abf5_1 : decode cJ4_length_8abf5 1 = .ok (.invokespecial 343, 3) := dkAt dk_J4_length_8abf5 1 rfl
theorem dj_J4_length_8abf5_4 : decode cJ4_length_8abf5 4 = .ok (.ireturn, 1) := dkAt dk_J4_length_8abf5 2 rfl
theorem mw_J1_charAt_3b067 : MW yJ1_charAt_3b067 cJ1_charAt_3b067 2 (some .char) 2 := ⟨gd 58 (by decide +kernel) rfl, gd 827 (by decide +kernel) rfl, ⟨by decide, by decide⟩, by decide +kernel⟩
theorem ms_J1_charAt_3b067 : Gd (.static yJ1_charAt_3b067) := gd 826 (by decide +kernel) rfl
theorem dj_J1_charAt_3b067_0 : decode cJ1_charAt_3b067 0 = .ok (.iload_n 1, 1) := dkAt dk_J1_charAt_3b067 0 rfl
theorem dj_J1_charAt_3b067_1 : decode cJ1_charAt_3b067 1 = .ok (.aload_n 0, 1) := dkAt dk_J1_charAt_3b067 1 rfl
theorem dj_J1_charAt_3b067_2 : decode cJ1_charAt_3b067 2 = .ok (.arraylength, 1) := dkAt dk_J1_charAt_3b067 2 rfl
theorem dj_J1_charAt_3b067_3 : decode cJ1_charAt_3b067 3 = .ok (.invokestatic 9, 3) := dkAt dk_J1_charAt_3b067 3 rfl
theorem dj_J1_charAt_3b067_6 : decode cJ1_charAt_3b067 6 = .ok (.aload_n 0, 1) := dkAt dk_J1_charAt_3b067 4 rfl
theorem dj_J1_charAt_3b067_7 : decode cJ1_charAt_3b067 7 = .ok (.iload_n 1, 1) := dkAt dk_J1_charAt_3b067 5 rfl
theorem dj_J1_charAt_3b067_8 : decode cJ1_charAt_3b067 8 = .ok (.baload, 1) := dkAt dk_J1_charAt_3b067 6 rfl
theorem dj_J1_charAt_3b067_9 : decode cJ1_charAt_3b067 9 = .ok (.sipush 255, 3) := dkAt dk_J1_charAt_3b067 7 rfl
theorem dj_J1_charAt_3b067_12 : decode cJ1_charAt_3b067 12 = .ok (.iand, 1) := dkAt dk_J1_charAt_3b067 8 rfl
theorem dj_J1_charAt_3b067_13 : decode cJ1_charAt_3b067 13 = .ok (.i2c, 1) := dkAt dk_J1_charAt_3b067 9 rfl
theorem dj_J1_charAt_3b067_14 : decode cJ1_charAt_3b067 14 = .ok (.ireturn, 1) := dkAt dk_J1_charAt_3b067 10 rfl
theorem mw_J1_canEncode_fc78d : MW yJ1_canEncode_fc78d cJ1_canEncode_fc78d 1 (some .boolean) 1 := ⟨gd 58 (by decide +kernel) rfl, gd 709 (by decide +kernel) rfl, ⟨by decide, by decide⟩, by decide +kernel⟩
theorem ms_J1_canEncode_fc78d : Gd (.static yJ1_canEncode_fc78d) := gd 708 (by decide +kernel) rfl
theorem dj_J1_canEncode_fc78d_0 : decode cJ1_canEncode_fc78d 0 = .ok (.iload_n 0, 1) := dkAt dk_J1_canEncode_fc78d 0 rfl
theorem dj_J1_canEncode_fc78d_1 : decode cJ1_canEncode_fc78d 1 = .ok (.sipush 255, 3) := dkAt dk_J1_canEncode_fc78d 1 rfl
theorem dj_J1_canEncode_fc78d_4 : decode cJ1_canEncode_fc78d 4 = .ok (.if_icmp .gt 7, 3) := dkAt dk_J1_canEncode_fc78d 2 rfl
theorem dj_J1_canEncode_fc78d_7 : decode cJ1_canEncode_fc78d 7 = .ok (.iconst 1, 1) := dkAt dk_J1_canEncode_fc78d 3 rfl
theorem dj_J1_canEncode_fc78d_8 : decode cJ1_canEncode_fc78d 8 = .ok (.goto 4, 3) := dkAt dk_J1_canEncode_fc78d 4 rfl
theorem dj_J1_canEncode_fc78d_11 : decode cJ1_canEncode_fc78d 11 = .ok (.iconst 0, 1) := dkAt dk_J1_canEncode_fc78d 5 rfl
theorem dj_J1_canEncode_fc78d_12 : decode cJ1_canEncode_fc78d 12 = .ok (.ireturn, 1) := dkAt dk_J1_canEncode_fc78d 6 rfl
theorem mw_J1_inflate_0e8fd : MW yJ1_inflate_0e8fd cJ1_inflate_0e8fd 5 none 5 := ⟨gd 58 (by decide +kernel) rfl, gd 618 (by decide +kernel) rfl, ⟨by decide, by decide⟩, by decide +kernel⟩
theorem ms_J1_inflate_0e8fd : Gd (.static yJ1_inflate_0e8fd) := gd 617 (by decide +kernel) rfl
theorem dj_J1_inflate_0e8fd_0 : decode cJ1_inflate_0e8fd 0 = .ok (.aload_n 0, 1) := dkAt dk_J1_inflate_0e8fd 0 rfl
theorem dj_J1_inflate_0e8fd_1 : decode cJ1_inflate_0e8fd 1 = .ok (.iload_n 1, 1) := dkAt dk_J1_inflate_0e8fd 1 rfl
theorem dj_J1_inflate_0e8fd_2 : decode cJ1_inflate_0e8fd 2 = .ok (.aload_n 2, 1) := dkAt dk_J1_inflate_0e8fd 2 rfl
theorem dj_J1_inflate_0e8fd_3 : decode cJ1_inflate_0e8fd 3 = .ok (.iload_n 3, 1) := dkAt dk_J1_inflate_0e8fd 3 rfl
theorem dj_J1_inflate_0e8fd_4 : decode cJ1_inflate_0e8fd 4 = .ok (.iload 4, 2) := dkAt dk_J1_inflate_0e8fd 4 rfl
theorem dj_J1_inflate_0e8fd_6 : decode cJ1_inflate_0e8fd 6 = .ok (.invokestatic 240, 3) := dkAt dk_J1_inflate_0e8fd 5 rfl
theorem dj_J1_inflate_0e8fd_9 : decode cJ1_inflate_0e8fd 9 = .ok (.return_, 1) := dkAt dk_J1_inflate_0e8fd 6 rfl
theorem mw_J2_newBytesFor_77867 : MW yJ2_newBytesFor_77867 cJ2_newBytesFor_77867 1 (some (.array .byte)) 1 := ⟨gd 52 (by decide +kernel) rfl, gd 516 (by decide +kernel) rfl, ⟨by decide, by decide⟩, by decide +kernel⟩
theorem ms_J2_newBytesFor_77867 : Gd (.static yJ2_newBytesFor_77867) := gd 515 (by decide +kernel) rfl
theorem dj_J2_newBytesFor_77867_0 : decode cJ2_newBytesFor_77867 0 = .ok (.iload_n 0, 1) := dkAt dk_J2_newBytesFor_77867 0 rfl
theorem dj_J2_newBytesFor_77867_1 : decode cJ2_newBytesFor_77867 1 = .ok (.invokestatic 11, 3) := dkAt dk_J2_newBytesFor_77867 1 rfl
theorem dj_J2_newBytesFor_77867_4 : decode cJ2_newBytesFor_77867 4 = .ok (.newarray .byte, 2) := dkAt dk_J2_newBytesFor_77867 2 rfl
theorem dj_J2_newBytesFor_77867_6 : decode cJ2_newBytesFor_77867 6 = .ok (.areturn, 1) := dkAt dk_J2_newBytesFor_77867 3 rfl
theorem mw_J2_newBytesLength_0f7a4 : MW yJ2_newBytesLength_0f7a4 cJ2_newBytesLength_0f7a4 1 (some .int) 1 := ⟨gd 52 (by decide +kernel) rfl, gd 519 (by decide +kernel) rfl, ⟨by decide, by decide⟩, by decide +kernel⟩
theorem ms_J2_newBytesLength_0f7a4 : Gd (.static yJ2_newBytesLength_0f7a4) := gd 518 (by decide +kernel) rfl
theorem dj_J2_newBytesLength_0f7a4_0 : decode cJ2_newBytesLength_0f7a4 0 = .ok (.iload_n 0, 1) := dkAt dk_J2_newBytesLength_0f7a4 0 rfl
theorem dj_J2_newBytesLength_0f7a4_1 : decode cJ2_newBytesLength_0f7a4 1 = .ok (.ifCond .ge 11, 3) := dkAt dk_J2_newBytesLength_0f7a4 1 rfl
theorem dj_J2_newBytesLength_0f7a4_4 : decode cJ2_newBytesLength_0f7a4 4 = .ok (.new 17, 3) := dkAt dk_J2_newBytesLength_0f7a4 2 rfl
theorem dj_J2_newBytesLength_0f7a4_7 : decode cJ2_newBytesLength_0f7a4 7 = .ok (.dup, 1) := dkAt dk_J2_newBytesLength_0f7a4 3 rfl
theorem dj_J2_newBytesLength_0f7a4_8 : decode cJ2_newBytesLength_0f7a4 8 = .ok (.invokespecial 19, 3) := dkAt dk_J2_newBytesLength_0f7a4 4 rfl
theorem dj_J2_newBytesLength_0f7a4_11 : decode cJ2_newBytesLength_0f7a4 11 = .ok (.athrow, 1) := dkAt dk_J2_newBytesLength_0f7a4 5 rfl
theorem dj_J2_newBytesLength_0f7a4_12 : decode cJ2_newBytesLength_0f7a4 12 = .ok (.iload_n 0, 1) := dkAt dk_J2_newBytesLength_0f7a4 6 rfl
theorem dj_J2_newBytesLength_0f7a4_13 : decode cJ2_newBytesLength_0f7a4 13 = .ok (.ldc 20, 2) := dkAt dk_J2_newBytesLength_0f7a4 7 rfl
theorem dj_J2_newBytesLength_0f7a4_15 : decode cJ2_newBytesLength_0f7a4 15 = .ok (.if_icmp .lt 40, 3) := dkAt dk_J2_newBytesLength_0f7a4 8 rfl
theorem dj_J2_newBytesLength_0f7a4_18 : decode cJ2_newBytesLength_0f7a4 18 = .ok (.new 21, 3) := dkAt dk_J2_newBytesLength_0f7a4 9 rfl
theorem dj_J2_newBytesLength_0f7a4_21 : decode cJ2_newBytesLength_0f7a4 21 = .ok (.dup, 1) := dkAt dk_J2_newBytesLength_0f7a4 10 rfl
theorem dj_J2_newBytesLength_0f7a4_22 : decode cJ2_newBytesLength_0f7a4 22 = .ok (.new 23, 3) := dkAt dk_J2_newBytesLength_0f7a4 11 rfl
theorem dj_J2_newBytesLength_0f7a4_25 : decode cJ2_newBytesLength_0f7a4 25 = .ok (.dup, 1) := dkAt dk_J2_newBytesLength_0f7a4 12 rfl
theorem dj_J2_newBytesLength_0f7a4_26 : decode cJ2_newBytesLength_0f7a4 26 = .ok (.invokespecial 25, 3) := dkAt dk_J2_newBytesLength_0f7a4 13 rfl
theorem dj_J2_newBytesLength_0f7a4_29 : decode cJ2_newBytesLength_0f7a4 29 = .ok (.ldc 26, 2) := dkAt dk_J2_newBytesLength_0f7a4 14 rfl
theorem dj_J2_newBytesLength_0f7a4_31 : decode cJ2_newBytesLength_0f7a4 31 = .ok (.invokevirtual 28, 3) := dkAt dk_J2_newBytesLength_0f7a4 15 rfl
theorem dj_J2_newBytesLength_0f7a4_34 : decode cJ2_newBytesLength_0f7a4 34 = .ok (.iload_n 0, 1) := dkAt dk_J2_newBytesLength_0f7a4 16 rfl
theorem dj_J2_newBytesLength_0f7a4_35 : decode cJ2_newBytesLength_0f7a4 35 = .ok (.invokevirtual 32, 3) := dkAt dk_J2_newBytesLength_0f7a4 17 rfl
theorem dj_J2_newBytesLength_0f7a4_38 : decode cJ2_newBytesLength_0f7a4 38 = .ok (.ldc 35, 2) := dkAt dk_J2_newBytesLength_0f7a4 18 rfl
theorem dj_J2_newBytesLength_0f7a4_40 : decode cJ2_newBytesLength_0f7a4 40 = .ok (.invokevirtual 28, 3) := dkAt dk_J2_newBytesLength_0f7a4 19 rfl
theorem dj_J2_newBytesLength_0f7a4_43 : decode cJ2_newBytesLength_0f7a4 43 = .ok (.ldc 20, 2) := dkAt dk_J2_newBytesLength_0f7a4 20 rfl
theorem dj_J2_newBytesLength_0f7a4_45 : decode cJ2_newBytesLength_0f7a4 45 = .ok (.invokevirtual 32, 3) := dkAt dk_J2_newBytesLength_0f7a4 21 rfl
theorem dj_J2_newBytesLength_0f7a4_48 : decode cJ2_newBytesLength_0f7a4 48 = .ok (.invokevirtual 37, 3) := dkAt dk_J2_newBytesLength_0f7a4 22 rfl
theorem dj_J2_newBytesLength_0f7a4_51 : decode cJ2_newBytesLength_0f7a4 51 = .ok (.invokespecial 41, 3) := dkAt dk_J2_newBytesLength_0f7a4 23 rfl
theorem dj_J2_newBytesLength_0f7a4_54 : decode cJ2_newBytesLength_0f7a4 54 = .ok (.athrow, 1) := dkAt dk_J2_newBytesLength_0f7a4 24 rfl
theorem dj_J2_newBytesLength_0f7a4_55 : decode cJ2_newBytesLength_0f7a4 55 = .ok (.iload_n 0, 1) := dkAt dk_J2_newBytesLength_0f7a4 25 rfl
theorem dj_J2_newBytesLength_0f7a4_56 : decode cJ2_newBytesLength_0f7a4 56 = .ok (.iconst 1, 1) := dkAt dk_J2_newBytesLength_0f7a4 26 rfl
theorem dj_J2_newBytesLength_0f7a4_57 : decode cJ2_newBytesLength_0f7a4 57 = .ok (.ishl, 1) := dkAt dk_J2_newBytesLength_0f7a4 27 rfl
theorem dj_J2_newBytesLength_0f7a4_58 : decode cJ2_newBytesLength_0f7a4 58 = .ok (.ireturn, 1) := dkAt dk_J2_newBytesLength_0f7a4 28 rfl
theorem mw_J2_putChar_b72d1 : MW yJ2_putChar_b72d1 cJ2_putChar_b72d1 3 none 3 := ⟨gd 52 (by decide +kernel) rfl, gd 597 (by decide +kernel) rfl, ⟨by decide, by decide⟩, by decide +kernel⟩
theorem ms_J2_putChar_b72d1 : Gd (.static yJ2_putChar_b72d1) := gd 596 (by decide +kernel) rfl
theorem dj_J2_putChar_b72d1_0 : decode cJ2_putChar_b72d1 0 = .ok (.getstatic 44, 3) := dkAt dk_J2_putChar_b72d1 0 rfl
theorem dj_J2_putChar_b72d1_3 : decode cJ2_putChar_b72d1 3 = .ok (.ifCond .ne 25, 3) := dkAt dk_J2_putChar_b72d1 1 rfl
theorem dj_J2_putChar_b72d1_6 : decode cJ2_putChar_b72d1 6 = .ok (.iload_n 1, 1) := dkAt dk_J2_putChar_b72d1 2 rfl
theorem dj_J2_putChar_b72d1_7 : decode cJ2_putChar_b72d1 7 = .ok (.ifCond .lt 11, 3) := dkAt dk_J2_putChar_b72d1 3 rfl
theorem dj_J2_putChar_b72d1_10 : decode cJ2_putChar_b72d1 10 = .ok (.iload_n 1, 1) := dkAt dk_J2_putChar_b72d1 4 rfl
theorem dj_J2_putChar_b72d1_11 : decode cJ2_putChar_b72d1 11 = .ok (.aload_n 0, 1) := dkAt dk_J2_putChar_b72d1 5 rfl
theorem dj_J2_putChar_b72d1_12 : decode cJ2_putChar_b72d1 12 = .ok (.invokestatic 48, 3) := dkAt dk_J2_putChar_b72d1 6 rfl
theorem dj_J2_putChar_b72d1_15 : decode cJ2_putChar_b72d1 15 = .ok (.if_icmp .lt 13, 3) := dkAt dk_J2_putChar_b72d1 7 rfl
theorem dj_J2_putChar_b72d1_18 : decode cJ2_putChar_b72d1 18 = .ok (.new 52, 3) := dkAt dk_J2_putChar_b72d1 8 rfl
theorem dj_J2_putChar_b72d1_21 : decode cJ2_putChar_b72d1 21 = .ok (.dup, 1) := dkAt dk_J2_putChar_b72d1 9 rfl
theorem dj_J2_putChar_b72d1_22 : decode cJ2_putChar_b72d1 22 = .ok (.ldc 54, 2) := dkAt dk_J2_putChar_b72d1 10 rfl
theorem dj_J2_putChar_b72d1_24 : decode cJ2_putChar_b72d1 24 = .ok (.invokespecial 56, 3) := dkAt dk_J2_putChar_b72d1 11 rfl
theorem dj_J2_putChar_b72d1_27 : decode cJ2_putChar_b72d1 27 = .ok (.athrow, 1) := dkAt dk_J2_putChar_b72d1 12 rfl
theorem dj_J2_putChar_b72d1_28 : decode cJ2_putChar_b72d1 28 = .ok (.iload_n 1, 1) := dkAt dk_J2_putChar_b72d1 13 rfl
theorem dj_J2_putChar_b72d1_29 : decode cJ2_putChar_b72d1 29 = .ok (.iconst 1, 1) := dkAt dk_J2_putChar_b72d1 14 rfl
theorem dj_J2_putChar_b72d1_30 : decode cJ2_putChar_b72d1 30 = .ok (.ishl, 1) := dkAt dk_J2_putChar_b72d1 15 rfl
theorem dj_J2_putChar_b72d1_31 : decode cJ2_putChar_b72d1 31 = .ok (.istore_n 1, 1) := dkAt dk_J2_putChar_b72d1 16 rfl
theorem dj_J2_putChar_b72d1_32 : decode cJ2_putChar_b72d1 32 = .ok (.aload_n 0, 1) := dkAt dk_J2_putChar_b72d1 17 rfl
theorem dj_J2_putChar_b72d1_33 : decode cJ2_putChar_b72d1 33 = .ok (.iload_n 1, 1) := dkAt dk_J2_putChar_b72d1 18 rfl
theorem dj_J2_putChar_b72d1_34 : decode cJ2_putChar_b72d1 34 = .ok (.iinc 1 1, 3) := dkAt dk_J2_putChar_b72d1 19 rfl
theorem dj_J2_putChar_b72d1_37 : decode cJ2_putChar_b72d1 37 = .ok (.iload_n 2, 1) := dkAt dk_J2_putChar_b72d1 20 rfl
theorem dj_J2_putChar_b72d1_38 : decode cJ2_putChar_b72d1 38 = .ok (.getstatic 59, 3) := dkAt dk_J2_putChar_b72d1 21 rfl
theorem dj_J2_putChar_b72d1_41 : decode cJ2_putChar_b72d1 41 = .ok (.ishr, 1) := dkAt dk_J2_putChar_b72d1 22 rfl
theorem dj_J2_putChar_b72d1_42 : decode cJ2_putChar_b72d1 42 = .ok (.i2b, 1) := dkAt dk_J2_putChar_b72d1 23 rfl
theorem dj_J2_putChar_b72d1_43 : decode cJ2_putChar_b72d1 43 = .ok (.bastore, 1) := dkAt dk_J2_putChar_b72d1 24 rfl
theorem dj_J2_putChar_b72d1_44 : decode cJ2_putChar_b72d1 44 = .ok (.aload_n 0, 1) := dkAt dk_J2_putChar_b72d1 25 rfl
theorem dj_J2_putChar_b72d1_45 : decode cJ2_putChar_b72d1 45 = .ok (.iload_n 1, 1) := dkAt dk_J2_putChar_b72d1 26 rfl
theorem dj_J2_putChar_b72d1_46 : decode cJ2_putChar_b72d1 46 = .ok (.iload_n 2, 1) := dkAt dk_J2_putChar_b72d1 27 rfl
theorem dj_J2_putChar_b72d1_47 : decode cJ2_putChar_b72d1 47 = .ok (.getstatic 63, 3) := dkAt dk_J2_putChar_b72d1 28 rfl
theorem dj_J2_putChar_b72d1_50 : decode cJ2_putChar_b72d1 50 = .ok (.ishr, 1) := dkAt dk_J2_putChar_b72d1 29 rfl
theorem dj_J2_putChar_b72d1_51 : decode cJ2_putChar_b72d1 51 = .ok (.i2b, 1) := dkAt dk_J2_putChar_b72d1 30 rfl
theorem dj_J2_putChar_b72d1_52 : decode cJ2_putChar_b72d1 52 = .ok (.bastore, 1) := dkAt dk_J2_putChar_b72d1 31 rfl
theorem dj_J2_putChar_b72d1_53 : decode cJ2_putChar_b72d1 53 = .ok (.return_, 1) := dkAt dk_J2_putChar_b72d1 32 rfl
theorem mw_J2_getChar_3b067 : MW yJ2_getChar_3b067 cJ2_getChar_3b067 2 (some .char) 2 := ⟨gd 52 (by decide +kernel) rfl, gd 834 (by decide +kernel) rfl, ⟨by decide, by decide⟩, by decide +kernel⟩
theorem ms_J2_getChar_3b067 : Gd (.static yJ2_getChar_3b067) := gd 833 (by decide +kernel) rfl
theorem dj_J2_getChar_3b067_0 : decode cJ2_getChar_3b067 0 = .ok (.getstatic 44, 3) := dkAt dk_J2_getChar_3b067 0 rfl
theorem dj_J2_getChar_3b067_3 : decode cJ2_getChar_3b067 3 = .ok (.ifCond .ne 25, 3) := dkAt dk_J2_getChar_3b067 1 rfl
theorem dj_J2_getChar_3b067_6 : decode cJ2_getChar_3b067 6 = .ok (.iload_n 1, 1) := dkAt dk_J2_getChar_3b067 2 rfl
theorem dj_J2_getChar_3b067_7 : decode cJ2_getChar_3b067 7 = .ok (.ifCond .lt 11, 3) := dkAt dk_J2_getChar_3b067 3 rfl
theorem dj_J2_getChar_3b067_10 : decode cJ2_getChar_3b067 10 = .ok (.iload_n 1, 1) := dkAt dk_J2_getChar_3b067 4 rfl
theorem dj_J2_getChar_3b067_11 : decode cJ2_getChar_3b067 11 = .ok (.aload_n 0, 1) := dkAt dk_J2_getChar_3b067 5 rfl
theorem dj_J2_getChar_3b067_12 : decode cJ2_getChar_3b067 12 = .ok (.invokestatic 48, 3) := dkAt dk_J2_getChar_3b067 6 rfl
theorem dj_J2_getChar_3b067_15 : decode cJ2_getChar_3b067 15 = .ok (.if_icmp .lt 13, 3) := dkAt dk_J2_getChar_3b067 7 rfl
theorem dj_J2_getChar_3b067_18 : decode cJ2_getChar_3b067 18 = .ok (.new 52, 3) := dkAt dk_J2_getChar_3b067 8 rfl
theorem dj_J2_getChar_3b067_21 : decode cJ2_getChar_3b067 21 = .ok (.dup, 1) := dkAt dk_J2_getChar_3b067 9 rfl
theorem dj_J2_getChar_3b067_22 : decode cJ2_getChar_3b067 22 = .ok (.ldc 54, 2) := dkAt dk_J2_getChar_3b067 10 rfl
theorem dj_J2_getChar_3b067_24 : decode cJ2_getChar_3b067 24 = .ok (.invokespecial 56, 3) := dkAt dk_J2_getChar_3b067 11 rfl
theorem dj_J2_getChar_3b067_27 : decode cJ2_getChar_3b067 27 = .ok (.athrow, 1) := dkAt dk_J2_getChar_3b067 12 rfl
theorem dj_J2_getChar_3b067_28 : decode cJ2_getChar_3b067 28 = .ok (.iload_n 1, 1) := dkAt dk_J2_getChar_3b067 13 rfl
theorem dj_J2_getChar_3b067_29 : decode cJ2_getChar_3b067 29 = .ok (.iconst 1, 1) := dkAt dk_J2_getChar_3b067 14 rfl
theorem dj_J2_getChar_3b067_30 : decode cJ2_getChar_3b067 30 = .ok (.ishl, 1) := dkAt dk_J2_getChar_3b067 15 rfl
theorem dj_J2_getChar_3b067_31 : decode cJ2_getChar_3b067 31 = .ok (.istore_n 1, 1) := dkAt dk_J2_getChar_3b067 16 rfl
theorem dj_J2_getChar_3b067_32 : decode cJ2_getChar_3b067 32 = .ok (.aload_n 0, 1) := dkAt dk_J2_getChar_3b067 17 rfl
theorem dj_J2_getChar_3b067_33 : decode cJ2_getChar_3b067 33 = .ok (.iload_n 1, 1) := dkAt dk_J2_getChar_3b067 18 rfl
theorem dj_J2_getChar_3b067_34 : decode cJ2_getChar_3b067 34 = .ok (.iinc 1 1, 3) := dkAt dk_J2_getChar_3b067 19 rfl
theorem dj_J2_getChar_3b067_37 : decode cJ2_getChar_3b067 37 = .ok (.baload, 1) := dkAt dk_J2_getChar_3b067 20 rfl
theorem dj_J2_getChar_3b067_38 : decode cJ2_getChar_3b067 38 = .ok (.sipush 255, 3) := dkAt dk_J2_getChar_3b067 21 rfl
theorem dj_J2_getChar_3b067_41 : decode cJ2_getChar_3b067 41 = .ok (.iand, 1) := dkAt dk_J2_getChar_3b067 22 rfl
theorem dj_J2_getChar_3b067_42 : decode cJ2_getChar_3b067 42 = .ok (.getstatic 59, 3) := dkAt dk_J2_getChar_3b067 23 rfl
theorem dj_J2_getChar_3b067_45 : decode cJ2_getChar_3b067 45 = .ok (.ishl, 1) := dkAt dk_J2_getChar_3b067 24 rfl
theorem dj_J2_getChar_3b067_46 : decode cJ2_getChar_3b067 46 = .ok (.aload_n 0, 1) := dkAt dk_J2_getChar_3b067 25 rfl
theorem dj_J2_getChar_3b067_47 : decode cJ2_getChar_3b067 47 = .ok (.iload_n 1, 1) := dkAt dk_J2_getChar_3b067 26 rfl
theorem dj_J2_getChar_3b067_48 : decode cJ2_getChar_3b067 48 = .ok (.baload, 1) := dkAt dk_J2_getChar_3b067 27 rfl
theorem dj_J2_getChar_3b067_49 : decode cJ2_getChar_3b067 49 = .ok (.sipush 255, 3) := dkAt dk_J2_getChar_3b067 28 rfl
theorem dj_J2_getChar_3b067_52 : decode cJ2_getChar_3b067 52 = .ok (.iand, 1) := dkAt dk_J2_getChar_3b067 29 rfl
theorem dj_J2_getChar_3b067_53 : decode cJ2_getChar_3b067 53 = .ok (.getstatic 63, 3) := dkAt dk_J2_getChar_3b067 30 rfl
theorem dj_J2_getChar_3b067_56 : decode cJ2_getChar_3b067 56 = .ok (.ishl, 1) := dkAt dk_J2_getChar_3b067 31 rfl
theorem dj_J2_getChar_3b067_57 : decode cJ2_getChar_3b067 57 = .ok (.ior, 1) := dkAt dk_J2_getChar_3b067 32 rfl
theorem dj_J2_getChar_3b067_58 : decode cJ2_getChar_3b067 58 = .ok (.i2c, 1) := dkAt dk_J2_getChar_3b067 33 rfl
theorem dj_J2_getChar_3b067_59 : decode cJ2_getChar_3b067 59 = .ok (.ireturn, 1) := dkAt dk_J2_getChar_3b067 34 rfl
theorem mw_J2_length_9d52b : MW yJ2_length_9d52b cJ2_length_9d52b 1 (some .int) 1 := ⟨gd 52 (by decide +kernel) rfl, gd 586 (by decide +kernel) rfl, ⟨by decide, by decide⟩, by decide +kernel⟩
theorem ms_J2_length_9d52b : Gd (.static yJ2_length_9d52b) := gd 585 (by decide +kernel) rfl
theorem dj_J2_length_9d52b_0 : decode cJ2_length_9d52b 0 = .ok (.aload_n 0, 1) := dkAt dk_J2_length_9d52b 0 rfl
theorem dj_J2_length_9d52b_1 : decode cJ2_length_9d52b 1 = .ok (.arraylength, 1) := dkAt dk_J2_length_9d52b 1 rfl
theorem dj_J2_length_9d52b_2 : decode cJ2_length_9d52b 2 = .ok (.iconst 1, 1) := dkAt dk_J2_length_9d52b 2 rfl
theorem dj_J2_length_9d52b_3 : decode cJ2_length_9d52b 3 = .ok (.ishr, 1) := dkAt dk_J2_length_9d52b 3 rfl
theorem dj_J2_length_9d52b_4 : decode cJ2_length_9d52b 4 = .ok (.ireturn, 1) := dkAt dk_J2_length_9d52b 4 rfl
theorem mw_J2_coderFromArrayLen_85cad : MW yJ2_coderFromArrayLen_85cad cJ2_coderFromArrayLen_85cad 2 (some .byte) 2 := ⟨gd 52 (by decide +kernel) rfl, gd 1664 (by decide +kernel) rfl, ⟨by decide, by decide⟩, by decide +kernel⟩
theorem ms_J2_coderFromArrayLen_85cad : Gd (.static yJ2_coderFromArrayLen_85cad) := gd 1663 (by decide +kernel) rfl
theorem dj_J2_coderFromArrayLen_85cad_0 : decode cJ2_coderFromArrayLen_85cad 0 = .ok (.iload_n 1, 1) := dkAt dk_J2_coderFromArrayLen_85cad 0 rfl
theorem dj_J2_coderFromArrayLen_85cad_1 : decode cJ2_coderFromArrayLen_85cad 1 = .ok (.aload_n 0, 1) := dkAt dk_J2_coderFromArrayLen_85cad 1 rfl
theorem dj_J2_coderFromArrayLen_85cad_2 : decode cJ2_coderFromArrayLen_85cad 2 = .ok (.arraylength, 1) := dkAt dk_J2_coderFromArrayLen_85cad 2 rfl
theorem dj_J2_coderFromArrayLen_85cad_3 : decode cJ2_coderFromArrayLen_85cad 3 = .ok (.isub, 1) := dkAt dk_J2_coderFromArrayLen_85cad 3 rfl
theorem dj_J2_coderFromArrayLen_85cad_4 : decode cJ2_coderFromArrayLen_85cad 4 = .ok (.bipush 31, 2) := dkAt dk_J2_coderFromArrayLen_85cad 4 rfl
theorem dj_J2_coderFromArrayLen_85cad_6 : decode cJ2_coderFromArrayLen_85cad 6 = .ok (.iushr, 1) := dkAt dk_J2_coderFromArrayLen_85cad 5 rfl
theorem dj_J2_coderFromArrayLen_85cad_7 : decode cJ2_coderFromArrayLen_85cad 7 = .ok (.i2b, 1) := dkAt dk_J2_coderFromArrayLen_85cad 6 rfl
theorem dj_J2_coderFromArrayLen_85cad_8 : decode cJ2_coderFromArrayLen_85cad 8 = .ok (.ireturn, 1) := dkAt dk_J2_coderFromArrayLen_85cad 7 rfl
theorem mw_J2_compress_39247 : MW yJ2_compress_39247 cJ2_compress_39247 6 (some (.array .byte)) 3 := ⟨gd 52 (by decide +kernel) rfl, gd 1657 (by decide +kernel) rfl, ⟨by decide, by decide⟩, by decide +kernel⟩
theorem ms_J2_compress_39247 : Gd (.static yJ2_compress_39247) := gd 1656 (by decide +kernel) rfl
theorem dj_J2_compress_39247_0 : decode cJ2_compress_39247 0 = .ok (.iload_n 2, 1) := dkAt dk_J2_compress_39247 0 rfl
theorem dj_J2_compress_39247_1 : decode cJ2_compress_39247 1 = .ok (.newarray .byte, 2) := dkAt dk_J2_compress_39247 1 rfl
theorem dj_J2_compress_39247_3 : decode cJ2_compress_39247 3 = .ok (.astore_n 3, 1) := dkAt dk_J2_compress_39247 2 rfl
theorem dj_J2_compress_39247_4 : decode cJ2_compress_39247 4 = .ok (.aload_n 0, 1) := dkAt dk_J2_compress_39247 3 rfl
theorem dj_J2_compress_39247_5 : decode cJ2_compress_39247 5 = .ok (.iload_n 1, 1) := dkAt dk_J2_compress_39247 4 rfl
theorem dj_J2_compress_39247_6 : decode cJ2_compress_39247 6 = .ok (.aload_n 3, 1) := dkAt dk_J2_compress_39247 5 rfl
theorem dj_J2_compress_39247_7 : decode cJ2_compress_39247 7 = .ok (.iconst 0, 1) := dkAt dk_J2_compress_39247 6 rfl
theorem dj_J2_compress_39247_8 : decode cJ2_compress_39247 8 = .ok (.iload_n 2, 1) := dkAt dk_J2_compress_39247 7 rfl
theorem dj_J2_compress_39247_9 : decode cJ2_compress_39247 9 = .ok (.invokestatic 123, 3) := dkAt dk_J2_compress_39247 8 rfl
theorem dj_J2_compress_39247_12 : decode cJ2_compress_39247 12 = .ok (.istore 4, 2) := dkAt dk_J2_compress_39247 9 rfl
theorem dj_J2_compress_39247_14 : decode cJ2_compress_39247 14 = .ok (.iload 4, 2) := dkAt dk_J2_compress_39247 10 rfl
theorem dj_J2_compress_39247_16 : decode cJ2_compress_39247 16 = .ok (.iload_n 2, 1) := dkAt dk_J2_compress_39247 11 rfl
theorem dj_J2_compress_39247_17 : decode cJ2_compress_39247 17 = .ok (.if_icmp .eq 47, 3) := dkAt dk_J2_compress_39247 12 rfl
theorem dj_J2_compress_39247_20 : decode cJ2_compress_39247 20 = .ok (.aload_n 0, 1) := dkAt dk_J2_compress_39247 13 rfl
theorem dj_J2_compress_39247_21 : decode cJ2_compress_39247 21 = .ok (.iload_n 1, 1) := dkAt dk_J2_compress_39247 14 rfl
theorem dj_J2_compress_39247_22 : decode cJ2_compress_39247 22 = .ok (.iconst 1, 1) := dkAt dk_J2_compress_39247 15 rfl
theorem dj_J2_compress_39247_23 : decode cJ2_compress_39247 23 = .ok (.ishl, 1) := dkAt dk_J2_compress_39247 16 rfl
theorem dj_J2_compress_39247_24 : decode cJ2_compress_39247 24 = .ok (.iload_n 1, 1) := dkAt dk_J2_compress_39247 17 rfl
theorem dj_J2_compress_39247_25 : decode cJ2_compress_39247 25 = .ok (.iload_n 2, 1) := dkAt dk_J2_compress_39247 18 rfl
theorem dj_J2_compress_39247_26 : decode cJ2_compress_39247 26 = .ok (.iadd, 1) := dkAt dk_J2_compress_39247 19 rfl
theorem dj_J2_compress_39247_27 : decode cJ2_compress_39247 27 = .ok (.invokestatic 11, 3) := dkAt dk_J2_compress_39247 20 rfl
theorem dj_J2_compress_39247_30 : decode cJ2_compress_39247 30 = .ok (.invokestatic 126, 3) := dkAt dk_J2_compress_39247 21 rfl
theorem dj_J2_compress_39247_33 : decode cJ2_compress_39247 33 = .ok (.astore 5, 2) := dkAt dk_J2_compress_39247 22 rfl
theorem dj_J2_compress_39247_35 : decode cJ2_compress_39247 35 = .ok (.aload 5, 2) := dkAt dk_J2_compress_39247 23 rfl
theorem dj_J2_compress_39247_37 : decode cJ2_compress_39247 37 = .ok (.iload 4, 2) := dkAt dk_J2_compress_39247 24 rfl
theorem dj_J2_compress_39247_39 : decode cJ2_compress_39247 39 = .ok (.invokestatic 71, 3) := dkAt dk_J2_compress_39247 25 rfl
theorem dj_J2_compress_39247_42 : decode cJ2_compress_39247 42 = .ok (.sipush 255, 3) := dkAt dk_J2_compress_39247 26 rfl
theorem dj_J2_compress_39247_45 : decode cJ2_compress_39247 45 = .ok (.if_icmp .gt 16, 3) := dkAt dk_J2_compress_39247 27 rfl
theorem dj_J2_compress_39247_48 : decode cJ2_compress_39247 48 = .ok (.aload 5, 2) := dkAt dk_J2_compress_39247 28 rfl
theorem dj_J2_compress_39247_50 : decode cJ2_compress_39247 50 = .ok (.iconst 0, 1) := dkAt dk_J2_compress_39247 29 rfl
theorem dj_J2_compress_39247_51 : decode cJ2_compress_39247 51 = .ok (.aload_n 3, 1) := dkAt dk_J2_compress_39247 30 rfl
theorem dj_J2_compress_39247_52 : decode cJ2_compress_39247 52 = .ok (.iconst 0, 1) := dkAt dk_J2_compress_39247 31 rfl
theorem dj_J2_compress_39247_53 : decode cJ2_compress_39247 53 = .ok (.iload_n 2, 1) := dkAt dk_J2_compress_39247 32 rfl
theorem dj_J2_compress_39247_54 : decode cJ2_compress_39247 54 = .ok (.invokestatic 123, 3) := dkAt dk_J2_compress_39247 33 rfl
theorem dj_J2_compress_39247_57 : decode cJ2_compress_39247 57 = .ok (.iload_n 2, 1) := dkAt dk_J2_compress_39247 34 rfl
theorem dj_J2_compress_39247_58 : decode cJ2_compress_39247 58 = .ok (.if_icmp .eq 6, 3) := dkAt dk_J2_compress_39247 35 rfl
theorem dj_J2_compress_39247_61 : decode cJ2_compress_39247 61 = .ok (.aload 5, 2) := dkAt dk_J2_compress_39247 36 rfl
theorem dj_J2_compress_39247_63 : decode cJ2_compress_39247 63 = .ok (.areturn, 1) := dkAt dk_J2_compress_39247 37 rfl
theorem dj_J2_compress_39247_64 : decode cJ2_compress_39247 64 = .ok (.aload_n 3, 1) := dkAt dk_J2_compress_39247 38 rfl
theorem dj_J2_compress_39247_65 : decode cJ2_compress_39247 65 = .ok (.areturn, 1) := dkAt dk_J2_compress_39247 39 rfl
theorem mw_J2_compress_5af95 : MW yJ2_compress_5af95 cJ2_compress_5af95 7 (some .int) 5 := ⟨gd 52 (by decide +kernel) rfl, gd 1660 (by decide +kernel) rfl, ⟨by decide, by decide⟩, by decide +kernel⟩
theorem ms_J2_compress_5af95 : Gd (.static yJ2_compress_5af95) := gd 1659 (by decide +kernel) rfl
theorem dj_J2_compress_5af95_0 : decode cJ2_compress_5af95 0 = .ok (.iload_n 1, 1) := dkAt dk_J2_compress_5af95 0 rfl
theorem dj_J2_compress_5af95_1 : decode cJ2_compress_5af95 1 = .ok (.iload 4, 2) := dkAt dk_J2_compress_5af95 1 rfl
theorem dj_J2_compress_5af95_3 : decode cJ2_compress_5af95 3 = .ok (.aload_n 0, 1) := dkAt dk_J2_compress_5af95 2 rfl
theorem dj_J2_compress_5af95_4 : decode cJ2_compress_5af95 4 = .ok (.invokestatic 173, 3) := dkAt dk_J2_compress_5af95 3 rfl
theorem dj_J2_compress_5af95_7 : decode cJ2_compress_5af95 7 = .ok (.iconst 0, 1) := dkAt dk_J2_compress_5af95 4 rfl
theorem dj_J2_compress_5af95_8 : decode cJ2_compress_5af95 8 = .ok (.istore 5, 2) := dkAt dk_J2_compress_5af95 5 rfl
theorem dj_J2_compress_5af95_10 : decode cJ2_compress_5af95 10 = .ok (.iload 5, 2) := dkAt dk_J2_compress_5af95 6 rfl
theorem dj_J2_compress_5af95_12 : decode cJ2_compress_5af95 12 = .ok (.iload 4, 2) := dkAt dk_J2_compress_5af95 7 rfl
theorem dj_J2_compress_5af95_14 : decode cJ2_compress_5af95 14 = .ok (.if_icmp .ge 39, 3) := dkAt dk_J2_compress_5af95 8 rfl
theorem dj_J2_compress_5af95_17 : decode cJ2_compress_5af95 17 = .ok (.aload_n 0, 1) := dkAt dk_J2_compress_5af95 9 rfl
theorem dj_J2_compress_5af95_18 : decode cJ2_compress_5af95 18 = .ok (.iload_n 1, 1) := dkAt dk_J2_compress_5af95 10 rfl
theorem dj_J2_compress_5af95_19 : decode cJ2_compress_5af95 19 = .ok (.invokestatic 71, 3) := dkAt dk_J2_compress_5af95 11 rfl
theorem dj_J2_compress_5af95_22 : decode cJ2_compress_5af95 22 = .ok (.istore 6, 2) := dkAt dk_J2_compress_5af95 12 rfl
theorem dj_J2_compress_5af95_24 : decode cJ2_compress_5af95 24 = .ok (.iload 6, 2) := dkAt dk_J2_compress_5af95 13 rfl
theorem dj_J2_compress_5af95_26 : decode cJ2_compress_5af95 26 = .ok (.sipush 255, 3) := dkAt dk_J2_compress_5af95 14 rfl
theorem dj_J2_compress_5af95_29 : decode cJ2_compress_5af95 29 = .ok (.if_icmp .le 6, 3) := dkAt dk_J2_compress_5af95 15 rfl
theorem dj_J2_compress_5af95_32 : decode cJ2_compress_5af95 32 = .ok (.iload 5, 2) := dkAt dk_J2_compress_5af95 16 rfl
theorem dj_J2_compress_5af95_34 : decode cJ2_compress_5af95 34 = .ok (.ireturn, 1) := dkAt dk_J2_compress_5af95 17 rfl
theorem dj_J2_compress_5af95_35 : decode cJ2_compress_5af95 35 = .ok (.aload_n 2, 1) := dkAt dk_J2_compress_5af95 18 rfl
theorem dj_J2_compress_5af95_36 : decode cJ2_compress_5af95 36 = .ok (.iload_n 3, 1) := dkAt dk_J2_compress_5af95 19 rfl
theorem dj_J2_compress_5af95_37 : decode cJ2_compress_5af95 37 = .ok (.iload 6, 2) := dkAt dk_J2_compress_5af95 20 rfl
theorem dj_J2_compress_5af95_39 : decode cJ2_compress_5af95 39 = .ok (.i2b, 1) := dkAt dk_J2_compress_5af95 21 rfl
theorem dj_J2_compress_5af95_40 : decode cJ2_compress_5af95 40 = .ok (.bastore, 1) := dkAt dk_J2_compress_5af95 22 rfl
theorem dj_J2_compress_5af95_41 : decode cJ2_compress_5af95 41 = .ok (.iinc 1 1, 3) := dkAt dk_J2_compress_5af95 23 rfl
theorem dj_J2_compress_5af95_44 : decode cJ2_compress_5af95 44 = .ok (.iinc 3 1, 3) := dkAt dk_J2_compress_5af95 24 rfl
theorem dj_J2_compress_5af95_47 : decode cJ2_compress_5af95 47 = .ok (.iinc 5 1, 3) := dkAt dk_J2_compress_5af95 25 rfl
theorem dj_J2_compress_5af95_50 : decode cJ2_compress_5af95 50 = .ok (.goto (-40), 3) := dkAt dk_J2_compress_5af95 26 rfl
theorem dj_J2_compress_5af95_53 : decode cJ2_compress_5af95 53 = .ok (.iload 4, 2) := dkAt dk_J2_compress_5af95 27 rfl
theorem dj_J2_compress_5af95_55 : decode cJ2_compress_5af95 55 = .ok (.ireturn, 1) := dkAt dk_J2_compress_5af95 28 rfl
theorem mw_J2_putCharSB_b72d1 : MW yJ2_putCharSB_b72d1 cJ2_putCharSB_b72d1 3 none 3 := ⟨gd 52 (by decide +kernel) rfl, gd 712 (by decide +kernel) rfl, ⟨by decide, by decide⟩, by decide +kernel⟩
theorem ms_J2_putCharSB_b72d1 : Gd (.static yJ2_putCharSB_b72d1) := gd 711 (by decide +kernel) rfl
theorem dj_J2_putCharSB_b72d1_0 : decode cJ2_putCharSB_b72d1 0 = .ok (.iload_n 1, 1) := dkAt dk_J2_putCharSB_b72d1 0 rfl
theorem dj_J2_putCharSB_b72d1_1 : decode cJ2_putCharSB_b72d1 1 = .ok (.aload_n 0, 1) := dkAt dk_J2_putCharSB_b72d1 1 rfl
theorem dj_J2_putCharSB_b72d1_2 : decode cJ2_putCharSB_b72d1 2 = .ok (.invokestatic 67, 3) := dkAt dk_J2_putCharSB_b72d1 2 rfl
theorem dj_J2_putCharSB_b72d1_5 : decode cJ2_putCharSB_b72d1 5 = .ok (.aload_n 0, 1) := dkAt dk_J2_putCharSB_b72d1 3 rfl
theorem dj_J2_putCharSB_b72d1_6 : decode cJ2_putCharSB_b72d1 6 = .ok (.iload_n 1, 1) := dkAt dk_J2_putCharSB_b72d1 4 rfl
theorem dj_J2_putCharSB_b72d1_7 : decode cJ2_putCharSB_b72d1 7 = .ok (.iload_n 2, 1) := dkAt dk_J2_putCharSB_b72d1 5 rfl
theorem dj_J2_putCharSB_b72d1_8 : decode cJ2_putCharSB_b72d1 8 = .ok (.invokestatic 111, 3) := dkAt dk_J2_putCharSB_b72d1 6 rfl
theorem dj_J2_putCharSB_b72d1_11 : decode cJ2_putCharSB_b72d1 11 = .ok (.return_, 1) := dkAt dk_J2_putCharSB_b72d1 7 rfl
theorem mw_J2_getChars_46870 : MW yJ2_getChars_46870 cJ2_getChars_46870 5 (some .int) 4 := ⟨gd 52 (by decide +kernel) rfl, gd 679 (by decide +kernel) rfl, ⟨by decide, by decide⟩, by decide +kernel⟩
theorem ms_J2_getChars_46870 : Gd (.static yJ2_getChars_46870) := gd 678 (by decide +kernel) rfl
theorem dj_J2_getChars_46870_0 : decode cJ2_getChars_46870 0 = .ok (.iload_n 1, 1) := dkAt dk_J2_getChars_46870 0 rfl
theorem dj_J2_getChars_46870_1 : decode cJ2_getChars_46870 1 = .ok (.iload_n 2, 1) := dkAt dk_J2_getChars_46870 1 rfl
theorem dj_J2_getChars_46870_2 : decode cJ2_getChars_46870 2 = .ok (.aload_n 3, 1) := dkAt dk_J2_getChars_46870 2 rfl
theorem dj_J2_getChars_46870_3 : decode cJ2_getChars_46870 3 = .ok (.invokestatic 96, 3) := dkAt dk_J2_getChars_46870 3 rfl
theorem dj_J2_getChars_46870_6 : decode cJ2_getChars_46870 6 = .ok (.iload_n 0, 1) := dkAt dk_J2_getChars_46870 4 rfl
theorem dj_J2_getChars_46870_7 : decode cJ2_getChars_46870 7 = .ok (.iload_n 2, 1) := dkAt dk_J2_getChars_46870 5 rfl
theorem dj_J2_getChars_46870_8 : decode cJ2_getChars_46870 8 = .ok (.aload_n 3, 1) := dkAt dk_J2_getChars_46870 6 rfl
theorem dj_J2_getChars_46870_9 : decode cJ2_getChars_46870 9 = .ok (.invokestatic 393, 3) := dkAt dk_J2_getChars_46870 7 rfl
theorem dj_J2_getChars_46870_12 : decode cJ2_getChars_46870 12 = .ok (.istore 4, 2) := dkAt dk_J2_getChars_46870 8 rfl
theorem dj_J2_getChars_46870_14 : decode cJ2_getChars_46870 14 = .ok (.getstatic 44, 3) := dkAt dk_J2_getChars_46870 9 rfl
theorem dj_J2_getChars_46870_17 : decode cJ2_getChars_46870 17 = .ok (.ifCond .ne 17, 3) := dkAt dk_J2_getChars_46870 10 rfl
theorem dj_J2_getChars_46870_20 : decode cJ2_getChars_46870 20 = .ok (.iload_n 1, 1) := dkAt dk_J2_getChars_46870 11 rfl
theorem dj_J2_getChars_46870_21 : decode cJ2_getChars_46870 21 = .ok (.iload 4, 2) := dkAt dk_J2_getChars_46870 12 rfl
theorem dj_J2_getChars_46870_23 : decode cJ2_getChars_46870 23 = .ok (.if_icmp .eq 11, 3) := dkAt dk_J2_getChars_46870 13 rfl
theorem dj_J2_getChars_46870_26 : decode cJ2_getChars_46870 26 = .ok (.new 52, 3) := dkAt dk_J2_getChars_46870 14 rfl
theorem dj_J2_getChars_46870_29 : decode cJ2_getChars_46870 29 = .ok (.dup, 1) := dkAt dk_J2_getChars_46870 15 rfl
theorem dj_J2_getChars_46870_30 : decode cJ2_getChars_46870 30 = .ok (.invokespecial 66, 3) := dkAt dk_J2_getChars_46870 16 rfl
theorem dj_J2_getChars_46870_33 : decode cJ2_getChars_46870 33 = .ok (.athrow, 1) := dkAt dk_J2_getChars_46870 17 rfl
theorem dj_J2_getChars_46870_34 : decode cJ2_getChars_46870 34 = .ok (.iload 4, 2) := dkAt dk_J2_getChars_46870 18 rfl
theorem dj_J2_getChars_46870_36 : decode cJ2_getChars_46870 36 = .ok (.ireturn, 1) := dkAt dk_J2_getChars_46870 19 rfl
theorem mw_J2_putCharsAt_cd4e5 : MW yJ2_putCharsAt_cd4e5 cJ2_putCharsAt_cd4e5 7 (some .int) 6 := ⟨gd 52 (by decide +kernel) rfl, gd 580 (by decide +kernel) rfl, ⟨by decide, by decide⟩, by decide +kernel⟩
theorem ms_J2_putCharsAt_cd4e5 : Gd (.static yJ2_putCharsAt_cd4e5) := gd 579 (by decide +kernel) rfl
theorem dj_J2_putCharsAt_cd4e5_0 : decode cJ2_putCharsAt_cd4e5 0 = .ok (.iload_n 1, 1) := dkAt dk_J2_putCharsAt_cd4e5 0 rfl
theorem dj_J2_putCharsAt_cd4e5_1 : decode cJ2_putCharsAt_cd4e5 1 = .ok (.iconst 4, 1) := dkAt dk_J2_putCharsAt_cd4e5 1 rfl
theorem dj_J2_putCharsAt_cd4e5_2 : decode cJ2_putCharsAt_cd4e5 2 = .ok (.iadd, 1) := dkAt dk_J2_putCharsAt_cd4e5 2 rfl
theorem dj_J2_putCharsAt_cd4e5_3 : decode cJ2_putCharsAt_cd4e5 3 = .ok (.istore 6, 2) := dkAt dk_J2_putCharsAt_cd4e5 3 rfl
theorem dj_J2_putCharsAt_cd4e5_5 : decode cJ2_putCharsAt_cd4e5 5 = .ok (.iload_n 1, 1) := dkAt dk_J2_putCharsAt_cd4e5 4 rfl
theorem dj_J2_putCharsAt_cd4e5_6 : decode cJ2_putCharsAt_cd4e5 6 = .ok (.iload 6, 2) := dkAt dk_J2_putCharsAt_cd4e5 5 rfl
theorem dj_J2_putCharsAt_cd4e5_8 : decode cJ2_putCharsAt_cd4e5 8 = .ok (.aload_n 0, 1) := dkAt dk_J2_putCharsAt_cd4e5 6 rfl
theorem dj_J2_putCharsAt_cd4e5_9 : decode cJ2_putCharsAt_cd4e5 9 = .ok (.invokestatic 96, 3) := dkAt dk_J2_putCharsAt_cd4e5 7 rfl
theorem dj_J2_putCharsAt_cd4e5_12 : decode cJ2_putCharsAt_cd4e5 12 = .ok (.aload_n 0, 1) := dkAt dk_J2_putCharsAt_cd4e5 8 rfl
theorem dj_J2_putCharsAt_cd4e5_13 : decode cJ2_putCharsAt_cd4e5 13 = .ok (.iload_n 1, 1) := dkAt dk_J2_putCharsAt_cd4e5 9 rfl
theorem dj_J2_putCharsAt_cd4e5_14 : decode cJ2_putCharsAt_cd4e5 14 = .ok (.iinc 1 1, 3) := dkAt dk_J2_putCharsAt_cd4e5 10 rfl
theorem dj_J2_putCharsAt_cd4e5_17 : decode cJ2_putCharsAt_cd4e5 17 = .ok (.iload_n 2, 1) := dkAt dk_J2_putCharsAt_cd4e5 11 rfl
theorem dj_J2_putCharsAt_cd4e5_18 : decode cJ2_putCharsAt_cd4e5 18 = .ok (.invokestatic 111, 3) := dkAt dk_J2_putCharsAt_cd4e5 12 rfl
theorem dj_J2_putCharsAt_cd4e5_21 : decode cJ2_putCharsAt_cd4e5 21 = .ok (.aload_n 0, 1) := dkAt dk_J2_putCharsAt_cd4e5 13 rfl
theorem dj_J2_putCharsAt_cd4e5_22 : decode cJ2_putCharsAt_cd4e5 22 = .ok (.iload_n 1, 1) := dkAt dk_J2_putCharsAt_cd4e5 14 rfl
theorem dj_J2_putCharsAt_cd4e5_23 : decode cJ2_putCharsAt_cd4e5 23 = .ok (.iinc 1 1, 3) := dkAt dk_J2_putCharsAt_cd4e5 15 rfl
theorem dj_J2_putCharsAt_cd4e5_26 : decode cJ2_putCharsAt_cd4e5 26 = .ok (.iload_n 3, 1) := dkAt dk_J2_putCharsAt_cd4e5 16 rfl
theorem dj_J2_putCharsAt_cd4e5_27 : decode cJ2_putCharsAt_cd4e5 27 = .ok (.invokestatic 111, 3) := dkAt dk_J2_putCharsAt_cd4e5 17 rfl
theorem dj_J2_putCharsAt_cd4e5_30 : decode cJ2_putCharsAt_cd4e5 30 = .ok (.aload_n 0, 1) := dkAt dk_J2_putCharsAt_cd4e5 18 rfl
theorem dj_J2_putCharsAt_cd4e5_31 : decode cJ2_putCharsAt_cd4e5 31 = .ok (.iload_n 1, 1) := dkAt dk_J2_putCharsAt_cd4e5 19 rfl
theorem dj_J2_putCharsAt_cd4e5_32 : decode cJ2_putCharsAt_cd4e5 32 = .ok (.iinc 1 1, 3) := dkAt dk_J2_putCharsAt_cd4e5 20 rfl
theorem dj_J2_putCharsAt_cd4e5_35 : decode cJ2_putCharsAt_cd4e5 35 = .ok (.iload 4, 2) := dkAt dk_J2_putCharsAt_cd4e5 21 rfl
theorem dj_J2_putCharsAt_cd4e5_37 : decode cJ2_putCharsAt_cd4e5 37 = .ok (.invokestatic 111, 3) := dkAt dk_J2_putCharsAt_cd4e5 22 rfl
theorem dj_J2_putCharsAt_cd4e5_40 : decode cJ2_putCharsAt_cd4e5 40 = .ok (.aload_n 0, 1) := dkAt dk_J2_putCharsAt_cd4e5 23 rfl
theorem dj_J2_putCharsAt_cd4e5_41 : decode cJ2_putCharsAt_cd4e5 41 = .ok (.iload_n 1, 1) := dkAt dk_J2_putCharsAt_cd4e5 24 rfl
theorem dj_J2_putCharsAt_cd4e5_42 : decode cJ2_putCharsAt_cd4e5 42 = .ok (.iinc 1 1, 3) := dkAt dk_J2_putCharsAt_cd4e5 25 rfl
theorem dj_J2_putCharsAt_cd4e5_45 : decode cJ2_putCharsAt_cd4e5 45 = .ok (.iload 5, 2) := dkAt dk_J2_putCharsAt_cd4e5 26 rfl
theorem dj_J2_putCharsAt_cd4e5_47 : decode cJ2_putCharsAt_cd4e5 47 = .ok (.invokestatic 111, 3) := dkAt dk_J2_putCharsAt_cd4e5 27 rfl
theorem dj_J2_putCharsAt_cd4e5_50 : decode cJ2_putCharsAt_cd4e5 50 = .ok (.getstatic 44, 3) := dkAt dk_J2_putCharsAt_cd4e5 28 rfl
theorem dj_J2_putCharsAt_cd4e5_53 : decode cJ2_putCharsAt_cd4e5 53 = .ok (.ifCond .ne 17, 3) := dkAt dk_J2_putCharsAt_cd4e5 29 rfl
theorem dj_J2_putCharsAt_cd4e5_56 : decode cJ2_putCharsAt_cd4e5 56 = .ok (.iload_n 1, 1) := dkAt dk_J2_putCharsAt_cd4e5 30 rfl
theorem dj_J2_putCharsAt_cd4e5_57 : decode cJ2_putCharsAt_cd4e5 57 = .ok (.iload 6, 2) := dkAt dk_J2_putCharsAt_cd4e5 31 rfl
theorem dj_J2_putCharsAt_cd4e5_59 : decode cJ2_putCharsAt_cd4e5 59 = .ok (.if_icmp .eq 11, 3) := dkAt dk_J2_putCharsAt_cd4e5 32 rfl
theorem dj_J2_putCharsAt_cd4e5_62 : decode cJ2_putCharsAt_cd4e5 62 = .ok (.new 52, 3) := dkAt dk_J2_putCharsAt_cd4e5 33 rfl
theorem dj_J2_putCharsAt_cd4e5_65 : decode cJ2_putCharsAt_cd4e5 65 = .ok (.dup, 1) := dkAt dk_J2_putCharsAt_cd4e5 34 rfl
theorem dj_J2_putCharsAt_cd4e5_66 : decode cJ2_putCharsAt_cd4e5 66 = .ok (.invokespecial 66, 3) := dkAt dk_J2_putCharsAt_cd4e5 35 rfl
theorem dj_J2_putCharsAt_cd4e5_69 : decode cJ2_putCharsAt_cd4e5 69 = .ok (.athrow, 1) := dkAt dk_J2_putCharsAt_cd4e5 36 rfl
theorem dj_J2_putCharsAt_cd4e5_70 : decode cJ2_putCharsAt_cd4e5 70 = .ok (.iload 6, 2) := dkAt dk_J2_putCharsAt_cd4e5 37 rfl
theorem dj_J2_putCharsAt_cd4e5_72 : decode cJ2_putCharsAt_cd4e5 72 = .ok (.ireturn, 1) := dkAt dk_J2_putCharsAt_cd4e5 38 rfl
theorem mw_J2_charAt_3b067 : MW yJ2_charAt_3b067 cJ2_charAt_3b067 2 (some .char) 2 := ⟨gd 52 (by decide +kernel) rfl, gd 831 (by decide +kernel) rfl, ⟨by decide, by decide⟩, by decide +kernel⟩
theorem ms_J2_charAt_3b067 : Gd (.static yJ2_charAt_3b067) := gd 830 (by decide +kernel) rfl
theorem dj_J2_charAt_3b067_0 : decode cJ2_charAt_3b067 0 = .ok (.iload_n 1, 1) := dkAt dk_J2_charAt_3b067 0 rfl
theorem dj_J2_charAt_3b067_1 : decode cJ2_charAt_3b067 1 = .ok (.aload_n 0, 1) := dkAt dk_J2_charAt_3b067 1 rfl
theorem dj_J2_charAt_3b067_2 : decode cJ2_charAt_3b067 2 = .ok (.invokestatic 67, 3) := dkAt dk_J2_charAt_3b067 2 rfl
theorem dj_J2_charAt_3b067_5 : decode cJ2_charAt_3b067 5 = .ok (.aload_n 0, 1) := dkAt dk_J2_charAt_3b067 3 rfl
theorem dj_J2_charAt_3b067_6 : decode cJ2_charAt_3b067 6 = .ok (.iload_n 1, 1) := dkAt dk_J2_charAt_3b067 4 rfl
theorem dj_J2_charAt_3b067_7 : decode cJ2_charAt_3b067 7 = .ok (.invokestatic 71, 3) := dkAt dk_J2_charAt_3b067 5 rfl
theorem dj_J2_charAt_3b067_10 : decode cJ2_charAt_3b067 10 = .ok (.ireturn, 1) := dkAt dk_J2_charAt_3b067 6 rfl
theorem mw_J2_inflate_0e8fd : MW yJ2_inflate_0e8fd cJ2_inflate_0e8fd 6 none 5 := ⟨gd 52 (by decide +kernel) rfl, gd 621 (by decide +kernel) rfl, ⟨by decide, by decide⟩, by decide +kernel⟩
theorem ms_J2_inflate_0e8fd : Gd (.static yJ2_inflate_0e8fd) := gd 620 (by decide +kernel) rfl
theorem dj_J2_inflate_0e8fd_0 : decode cJ2_inflate_0e8fd 0 = .ok (.iload_n 3, 1) := dkAt dk_J2_inflate_0e8fd 0 rfl
theorem dj_J2_inflate_0e8fd_1 : decode cJ2_inflate_0e8fd 1 = .ok (.iload 4, 2) := dkAt dk_J2_inflate_0e8fd 1 rfl
theorem dj_J2_inflate_0e8fd_3 : decode cJ2_inflate_0e8fd 3 = .ok (.aload_n 2, 1) := dkAt dk_J2_inflate_0e8fd 2 rfl
theorem dj_J2_inflate_0e8fd_4 : decode cJ2_inflate_0e8fd 4 = .ok (.invokestatic 173, 3) := dkAt dk_J2_inflate_0e8fd 3 rfl
theorem dj_J2_inflate_0e8fd_7 : decode cJ2_inflate_0e8fd 7 = .ok (.iconst 0, 1) := dkAt dk_J2_inflate_0e8fd 4 rfl
theorem dj_J2_inflate_0e8fd_8 : decode cJ2_inflate_0e8fd 8 = .ok (.istore 5, 2) := dkAt dk_J2_inflate_0e8fd 5 rfl
theorem dj_J2_inflate_0e8fd_10 : decode cJ2_inflate_0e8fd 10 = .ok (.iload 5, 2) := dkAt dk_J2_inflate_0e8fd 6 rfl
theorem dj_J2_inflate_0e8fd_12 : decode cJ2_inflate_0e8fd 12 = .ok (.iload 4, 2) := dkAt dk_J2_inflate_0e8fd 7 rfl
theorem dj_J2_inflate_0e8fd_14 : decode cJ2_inflate_0e8fd 14 = .ok (.if_icmp .ge 27, 3) := dkAt dk_J2_inflate_0e8fd 8 rfl
theorem dj_J2_inflate_0e8fd_17 : decode cJ2_inflate_0e8fd 17 = .ok (.aload_n 2, 1) := dkAt dk_J2_inflate_0e8fd 9 rfl
theorem dj_J2_inflate_0e8fd_18 : decode cJ2_inflate_0e8fd 18 = .ok (.iload_n 3, 1) := dkAt dk_J2_inflate_0e8fd 10 rfl
theorem dj_J2_inflate_0e8fd_19 : decode cJ2_inflate_0e8fd 19 = .ok (.iinc 3 1, 3) := dkAt dk_J2_inflate_0e8fd 11 rfl
theorem dj_J2_inflate_0e8fd_22 : decode cJ2_inflate_0e8fd 22 = .ok (.aload_n 0, 1) := dkAt dk_J2_inflate_0e8fd 12 rfl
theorem dj_J2_inflate_0e8fd_23 : decode cJ2_inflate_0e8fd 23 = .ok (.iload_n 1, 1) := dkAt dk_J2_inflate_0e8fd 13 rfl
theorem dj_J2_inflate_0e8fd_24 : decode cJ2_inflate_0e8fd 24 = .ok (.iinc 1 1, 3) := dkAt dk_J2_inflate_0e8fd 14 rfl
theorem dj_J2_inflate_0e8fd_27 : decode cJ2_inflate_0e8fd 27 = .ok (.baload, 1) := dkAt dk_J2_inflate_0e8fd 15 rfl
theorem dj_J2_inflate_0e8fd_28 : decode cJ2_inflate_0e8fd 28 = .ok (.sipush 255, 3) := dkAt dk_J2_inflate_0e8fd 16 rfl
theorem dj_J2_inflate_0e8fd_31 : decode cJ2_inflate_0e8fd 31 = .ok (.iand, 1) := dkAt dk_J2_inflate_0e8fd 17 rfl
theorem dj_J2_inflate_0e8fd_32 : decode cJ2_inflate_0e8fd 32 = .ok (.invokestatic 111, 3) := dkAt dk_J2_inflate_0e8fd 18 rfl
theorem dj_J2_inflate_0e8fd_35 : decode cJ2_inflate_0e8fd 35 = .ok (.iinc 5 1, 3) := dkAt dk_J2_inflate_0e8fd 19 rfl
theorem dj_J2_inflate_0e8fd_38 : decode cJ2_inflate_0e8fd 38 = .ok (.goto (-28), 3) := dkAt dk_J2_inflate_0e8fd 20 rfl
theorem dj_J2_inflate_0e8fd_41 : decode cJ2_inflate_0e8fd 41 = .ok (.return_, 1) := dkAt dk_J2_inflate_0e8fd 21 rfl
theorem mw_J2_getChars_ba4f3 : MW yJ2_getChars_ba4f3 cJ2_getChars_ba4f3 7 (some .int) 3 := ⟨gd 52 (by decide +kernel) rfl, gd 682 (by decide +kernel) rfl, ⟨by decide, by decide⟩, by decide +kernel⟩
theorem ms_J2_getChars_ba4f3 : Gd (.static yJ2_getChars_ba4f3) := gd 681 (by decide +kernel) rfl
theorem dj_J2_getChars_ba4f3_0 : decode cJ2_getChars_ba4f3 0 = .ok (.iload_n 1, 1) := dkAt dk_J2_getChars_ba4f3 0 rfl
theorem dj_J2_getChars_ba4f3_1 : decode cJ2_getChars_ba4f3 1 = .ok (.istore 5, 2) := dkAt dk_J2_getChars_ba4f3 1 rfl
theorem dj_J2_getChars_ba4f3_3 : decode cJ2_getChars_ba4f3 3 = .ok (.iload_n 0, 1) := dkAt dk_J2_getChars_ba4f3 2 rfl
theorem dj_J2_getChars_ba4f3_4 : decode cJ2_getChars_ba4f3 4 = .ok (.ifCond .ge 7, 3) := dkAt dk_J2_getChars_ba4f3 3 rfl
theorem dj_J2_getChars_ba4f3_7 : decode cJ2_getChars_ba4f3 7 = .ok (.iconst 1, 1) := dkAt dk_J2_getChars_ba4f3 4 rfl
theorem dj_J2_getChars_ba4f3_8 : decode cJ2_getChars_ba4f3 8 = .ok (.goto 4, 3) := dkAt dk_J2_getChars_ba4f3 5 rfl
theorem dj_J2_getChars_ba4f3_11 : decode cJ2_getChars_ba4f3 11 = .ok (.iconst 0, 1) := dkAt dk_J2_getChars_ba4f3 6 rfl
theorem dj_J2_getChars_ba4f3_12 : decode cJ2_getChars_ba4f3 12 = .ok (.istore 6, 2) := dkAt dk_J2_getChars_ba4f3 7 rfl
theorem dj_J2_getChars_ba4f3_14 : decode cJ2_getChars_ba4f3 14 = .ok (.iload 6, 2) := dkAt dk_J2_getChars_ba4f3 8 rfl
theorem dj_J2_getChars_ba4f3_16 : decode cJ2_getChars_ba4f3 16 = .ok (.ifCond .ne 6, 3) := dkAt dk_J2_getChars_ba4f3 9 rfl
theorem dj_J2_getChars_ba4f3_19 : decode cJ2_getChars_ba4f3 19 = .ok (.iload_n 0, 1) := dkAt dk_J2_getChars_ba4f3 10 rfl
theorem dj_J2_getChars_ba4f3_20 : decode cJ2_getChars_ba4f3 20 = .ok (.ineg, 1) := dkAt dk_J2_getChars_ba4f3 11 rfl
theorem dj_J2_getChars_ba4f3_21 : decode cJ2_getChars_ba4f3 21 = .ok (.istore_n 0, 1) := dkAt dk_J2_getChars_ba4f3 12 rfl
theorem dj_J2_getChars_ba4f3_22 : decode cJ2_getChars_ba4f3 22 = .ok (.iload_n 0, 1) := dkAt dk_J2_getChars_ba4f3 13 rfl
theorem dj_J2_getChars_ba4f3_23 : decode cJ2_getChars_ba4f3 23 = .ok (.bipush (-100), 2) := dkAt dk_J2_getChars_ba4f3 14 rfl
theorem dj_J2_getChars_ba4f3_25 : decode cJ2_getChars_ba4f3 25 = .ok (.if_icmp .gt 51, 3) := dkAt dk_J2_getChars_ba4f3 15 rfl
theorem dj_J2_getChars_ba4f3_28 : decode cJ2_getChars_ba4f3 28 = .ok (.iload_n 0, 1) := dkAt dk_J2_getChars_ba4f3 16 rfl
theorem dj_J2_getChars_ba4f3_29 : decode cJ2_getChars_ba4f3 29 = .ok (.bipush 100, 2) := dkAt dk_J2_getChars_ba4f3 17 rfl
theorem dj_J2_getChars_ba4f3_31 : decode cJ2_getChars_ba4f3 31 = .ok (.idiv, 1) := dkAt dk_J2_getChars_ba4f3 18 rfl
theorem dj_J2_getChars_ba4f3_32 : decode cJ2_getChars_ba4f3 32 = .ok (.istore_n 3, 1) := dkAt dk_J2_getChars_ba4f3 19 rfl
theorem dj_J2_getChars_ba4f3_33 : decode cJ2_getChars_ba4f3 33 = .ok (.iload_n 3, 1) := dkAt dk_J2_getChars_ba4f3 20 rfl
theorem dj_J2_getChars_ba4f3_34 : decode cJ2_getChars_ba4f3 34 = .ok (.bipush 100, 2) := dkAt dk_J2_getChars_ba4f3 21 rfl
theorem dj_J2_getChars_ba4f3_36 : decode cJ2_getChars_ba4f3 36 = .ok (.imul, 1) := dkAt dk_J2_getChars_ba4f3 22 rfl
theorem dj_J2_getChars_ba4f3_37 : decode cJ2_getChars_ba4f3 37 = .ok (.iload_n 0, 1) := dkAt dk_J2_getChars_ba4f3 23 rfl
theorem dj_J2_getChars_ba4f3_38 : decode cJ2_getChars_ba4f3 38 = .ok (.isub, 1) := dkAt dk_J2_getChars_ba4f3 24 rfl
theorem dj_J2_getChars_ba4f3_39 : decode cJ2_getChars_ba4f3 39 = .ok (.istore 4, 2) := dkAt dk_J2_getChars_ba4f3 25 rfl
theorem dj_J2_getChars_ba4f3_41 : decode cJ2_getChars_ba4f3 41 = .ok (.iload_n 3, 1) := dkAt dk_J2_getChars_ba4f3 26 rfl
theorem dj_J2_getChars_ba4f3_42 : decode cJ2_getChars_ba4f3 42 = .ok (.istore_n 0, 1) := dkAt dk_J2_getChars_ba4f3 27 rfl
theorem dj_J2_getChars_ba4f3_43 : decode cJ2_getChars_ba4f3 43 = .ok (.aload_n 2, 1) := dkAt dk_J2_getChars_ba4f3 28 rfl
theorem dj_J2_getChars_ba4f3_44 : decode cJ2_getChars_ba4f3 44 = .ok (.iinc 5 (-1), 3) := dkAt dk_J2_getChars_ba4f3 29 rfl
theorem dj_J2_getChars_ba4f3_47 : decode cJ2_getChars_ba4f3 47 = .ok (.iload 5, 2) := dkAt dk_J2_getChars_ba4f3 30 rfl
theorem dj_J2_getChars_ba4f3_49 : decode cJ2_getChars_ba4f3 49 = .ok (.getstatic 403, 3) := dkAt dk_J2_getChars_ba4f3 31 rfl
theorem dj_J2_getChars_ba4f3_52 : decode cJ2_getChars_ba4f3 52 = .ok (.iload 4, 2) := dkAt dk_J2_getChars_ba4f3 32 rfl
theorem dj_J2_getChars_ba4f3_54 : decode cJ2_getChars_ba4f3 54 = .ok (.baload, 1) := dkAt dk_J2_getChars_ba4f3 33 rfl
theorem dj_J2_getChars_ba4f3_55 : decode cJ2_getChars_ba4f3 55 = .ok (.invokestatic 111, 3) := dkAt dk_J2_getChars_ba4f3 34 rfl
theorem dj_J2_getChars_ba4f3_58 : decode cJ2_getChars_ba4f3 58 = .ok (.aload_n 2, 1) := dkAt dk_J2_getChars_ba4f3 35 rfl
theorem dj_J2_getChars_ba4f3_59 : decode cJ2_getChars_ba4f3 59 = .ok (.iinc 5 (-1), 3) := dkAt dk_J2_getChars_ba4f3 36 rfl
theorem dj_J2_getChars_ba4f3_62 : decode cJ2_getChars_ba4f3 62 = .ok (.iload 5, 2) := dkAt dk_J2_getChars_ba4f3 37 rfl
theorem dj_J2_getChars_ba4f3_64 : decode cJ2_getChars_ba4f3 64 = .ok (.getstatic 407, 3) := dkAt dk_J2_getChars_ba4f3 38 rfl
theorem dj_J2_getChars_ba4f3_67 : decode cJ2_getChars_ba4f3 67 = .ok (.iload 4, 2) := dkAt dk_J2_getChars_ba4f3 39 rfl
theorem dj_J2_getChars_ba4f3_69 : decode cJ2_getChars_ba4f3 69 = .ok (.baload, 1) := dkAt dk_J2_getChars_ba4f3 40 rfl
theorem dj_J2_getChars_ba4f3_70 : decode cJ2_getChars_ba4f3 70 = .ok (.invokestatic 111, 3) := dkAt dk_J2_getChars_ba4f3 41 rfl
theorem dj_J2_getChars_ba4f3_73 : decode cJ2_getChars_ba4f3 73 = .ok (.goto (-51), 3) := dkAt dk_J2_getChars_ba4f3 42 rfl
theorem dj_J2_getChars_ba4f3_76 : decode cJ2_getChars_ba4f3 76 = .ok (.aload_n 2, 1) := dkAt dk_J2_getChars_ba4f3 43 rfl
theorem dj_J2_getChars_ba4f3_77 : decode cJ2_getChars_ba4f3 77 = .ok (.iinc 5 (-1), 3) := dkAt dk_J2_getChars_ba4f3 44 rfl
theorem dj_J2_getChars_ba4f3_80 : decode cJ2_getChars_ba4f3 80 = .ok (.iload 5, 2) := dkAt dk_J2_getChars_ba4f3 45 rfl
theorem dj_J2_getChars_ba4f3_82 : decode cJ2_getChars_ba4f3 82 = .ok (.getstatic 403, 3) := dkAt dk_J2_getChars_ba4f3 46 rfl
theorem dj_J2_getChars_ba4f3_85 : decode cJ2_getChars_ba4f3 85 = .ok (.iload_n 0, 1) := dkAt dk_J2_getChars_ba4f3 47 rfl
theorem dj_J2_getChars_ba4f3_86 : decode cJ2_getChars_ba4f3 86 = .ok (.ineg, 1) := dkAt dk_J2_getChars_ba4f3 48 rfl
theorem dj_J2_getChars_ba4f3_87 : decode cJ2_getChars_ba4f3 87 = .ok (.baload, 1) := dkAt dk_J2_getChars_ba4f3 49 rfl
theorem dj_J2_getChars_ba4f3_88 : decode cJ2_getChars_ba4f3 88 = .ok (.invokestatic 111, 3) := dkAt dk_J2_getChars_ba4f3 50 rfl
theorem dj_J2_getChars_ba4f3_91 : decode cJ2_getChars_ba4f3 91 = .ok (.iload_n 0, 1) := dkAt dk_J2_getChars_ba4f3 51 rfl
theorem dj_J2_getChars_ba4f3_92 : decode cJ2_getChars_ba4f3 92 = .ok (.bipush (-9), 2) := dkAt dk_J2_getChars_ba4f3 52 rfl
theorem dj_J2_getChars_ba4f3_94 : decode cJ2_getChars_ba4f3 94 = .ok (.if_icmp .ge 18, 3) := dkAt dk_J2_getChars_ba4f3 53 rfl
theorem dj_J2_getChars_ba4f3_97 : decode cJ2_getChars_ba4f3 97 = .ok (.aload_n 2, 1) := dkAt dk_J2_getChars_ba4f3 54 rfl
theorem dj_J2_getChars_ba4f3_98 : decode cJ2_getChars_ba4f3 98 = .ok (.iinc 5 (-1), 3) := dkAt dk_J2_getChars_ba4f3 55 rfl
theorem dj_J2_getChars_ba4f3_101 : decode cJ2_getChars_ba4f3 101 = .ok (.iload 5, 2) := dkAt dk_J2_getChars_ba4f3 56 rfl
theorem dj_J2_getChars_ba4f3_103 : decode cJ2_getChars_ba4f3 103 = .ok (.getstatic 407, 3) := dkAt dk_J2_getChars_ba4f3 57 rfl
theorem dj_J2_getChars_ba4f3_106 : decode cJ2_getChars_ba4f3 106 = .ok (.iload_n 0, 1) := dkAt dk_J2_getChars_ba4f3 58 rfl
theorem dj_J2_getChars_ba4f3_107 : decode cJ2_getChars_ba4f3 107 = .ok (.ineg, 1) := dkAt dk_J2_getChars_ba4f3 59 rfl
theorem dj_J2_getChars_ba4f3_108 : decode cJ2_getChars_ba4f3 108 = .ok (.baload, 1) := dkAt dk_J2_getChars_ba4f3 60 rfl
theorem dj_J2_getChars_ba4f3_109 : decode cJ2_getChars_ba4f3 109 = .ok (.invokestatic 111, 3) := dkAt dk_J2_getChars_ba4f3 61 rfl
theorem dj_J2_getChars_ba4f3_112 : decode cJ2_getChars_ba4f3 112 = .ok (.iload 6, 2) := dkAt dk_J2_getChars_ba4f3 62 rfl
theorem dj_J2_getChars_ba4f3_114 : decode cJ2_getChars_ba4f3 114 = .ok (.ifCond .eq 14, 3) := dkAt dk_J2_getChars_ba4f3 63 rfl
theorem dj_J2_getChars_ba4f3_117 : decode cJ2_getChars_ba4f3 117 = .ok (.aload_n 2, 1) := dkAt dk_J2_getChars_ba4f3 64 rfl
theorem dj_J2_getChars_ba4f3_118 : decode cJ2_getChars_ba4f3 118 = .ok (.iinc 5 (-1), 3) := dkAt dk_J2_getChars_ba4f3 65 rfl
theorem dj_J2_getChars_ba4f3_121 : decode cJ2_getChars_ba4f3 121 = .ok (.iload 5, 2) := dkAt dk_J2_getChars_ba4f3 66 rfl
theorem dj_J2_getChars_ba4f3_123 : decode cJ2_getChars_ba4f3 123 = .ok (.bipush 45, 2) := dkAt dk_J2_getChars_ba4f3 67 rfl
theorem dj_J2_getChars_ba4f3_125 : decode cJ2_getChars_ba4f3 125 = .ok (.invokestatic 111, 3) := dkAt dk_J2_getChars_ba4f3 68 rfl
theorem dj_J2_getChars_ba4f3_128 : decode cJ2_getChars_ba4f3 128 = .ok (.iload 5, 2) := dkAt dk_J2_getChars_ba4f3 69 rfl
theorem dj_J2_getChars_ba4f3_130 : decode cJ2_getChars_ba4f3 130 = .ok (.ireturn, 1) := dkAt dk_J2_getChars_ba4f3 70 rfl
theorem mw_J2_checkIndex_2214a : MW yJ2_checkIndex_2214a cJ2_checkIndex_2214a 2 none 2 := ⟨gd 52 (by decide +kernel) rfl, gd 715 (by decide +kernel) rfl, ⟨by decide, by decide⟩, by decide +kernel⟩
theorem ms_J2_checkIndex_2214a : Gd (.static yJ2_checkIndex_2214a) := gd 714 (by decide +kernel) rfl
theorem dj_J2_checkIndex_2214a_0 : decode cJ2_checkIndex_2214a 0 = .ok (.iload_n 0, 1) := dkAt dk_J2_checkIndex_2214a 0 rfl
theorem dj_J2_checkIndex_2214a_1 : decode cJ2_checkIndex_2214a 1 = .ok (.aload_n 1, 1) := dkAt dk_J2_checkIndex_2214a 1 rfl
theorem dj_J2_checkIndex_2214a_2 : decode cJ2_checkIndex_2214a 2 = .ok (.invokestatic 48, 3) := dkAt dk_J2_checkIndex_2214a 2 rfl
theorem dj_J2_checkIndex_2214a_5 : decode cJ2_checkIndex_2214a 5 = .ok (.invokestatic 414, 3) := dkAt dk_J2_checkIndex_2214a 3 rfl
theorem dj_J2_checkIndex_2214a_8 : decode cJ2_checkIndex_2214a 8 = .ok (.return_, 1) := dkAt dk_J2_checkIndex_2214a 4 rfl
theorem mw_J2_checkBoundsBeginEnd_d044e : MW yJ2_checkBoundsBeginEnd_d044e cJ2_checkBoundsBeginEnd_d044e 3 none 3 := ⟨gd 52 (by decide +kernel) rfl, gd 583 (by decide +kernel) rfl, ⟨by decide, by decide⟩, by decide +kernel⟩
theorem ms_J2_checkBoundsBeginEnd_d044e : Gd (.static yJ2_checkBoundsBeginEnd_d044e) := gd 582 (by decide +kernel) rfl
theorem dj_J2_checkBoundsBeginEnd_d044e_0 : decode cJ2_checkBoundsBeginEnd_d044e 0 = .ok (.iload_n 0, 1) := dkAt dk_J2_checkBoundsBeginEnd_d044e 0 rfl
theorem dj_J2_checkBoundsBeginEnd_d044e_1 : decode cJ2_checkBoundsBeginEnd_d044e 1 = .ok (.iload_n 1, 1) := dkAt dk_J2_checkBoundsBeginEnd_d044e 1 rfl
theorem dj_J2_checkBoundsBeginEnd_d044e_2 : decode cJ2_checkBoundsBeginEnd_d044e 2 = .ok (.aload_n 2, 1) := dkAt dk_J2_checkBoundsBeginEnd_d044e 2 rfl
theorem dj_J2_checkBoundsBeginEnd_d044e_3 : decode cJ2_checkBoundsBeginEnd_d044e 3 = .ok (.invokestatic 48, 3) := dkAt dk_J2_checkBoundsBeginEnd_d044e 3 rfl
theorem dj_J2_checkBoundsBeginEnd_d044e_6 : decode cJ2_checkBoundsBeginEnd_d044e 6 = .ok (.invokestatic 241, 3) := dkAt dk_J2_checkBoundsBeginEnd_d044e 4 rfl
theorem dj_J2_checkBoundsBeginEnd_d044e_9 : decode cJ2_checkBoundsBeginEnd_d044e 9 = .ok (.return_, 1) := dkAt dk_J2_checkBoundsBeginEnd_d044e 5 rfl
theorem mw_J2_checkBoundsOffCount_d044e : MW yJ2_checkBoundsOffCount_d044e cJ2_checkBoundsOffCount_d044e 3 none 3 := ⟨gd 52 (by decide +kernel) rfl, gd 624 (by decide +kernel) rfl, ⟨by decide, by decide⟩, by decide +kernel⟩
theorem ms_J2_checkBoundsOffCount_d044e : Gd (.static yJ2_checkBoundsOffCount_d044e) := gd 623 (by decide +kernel) rfl
theorem dj_J2_checkBoundsOffCount_d044e_0 : decode cJ2_checkBoundsOffCount_d044e 0 = .ok (.iload_n 0, 1) := dkAt dk_J2_checkBoundsOffCount_d044e 0 rfl
theorem dj_J2_checkBoundsOffCount_d044e_1 : decode cJ2_checkBoundsOffCount_d044e 1 = .ok (.iload_n 1, 1) := dkAt dk_J2_checkBoundsOffCount_d044e 1 rfl
theorem dj_J2_checkBoundsOffCount_d044e_2 : decode cJ2_checkBoundsOffCount_d044e 2 = .ok (.aload_n 2, 1) := dkAt dk_J2_checkBoundsOffCount_d044e 2 rfl
theorem dj_J2_checkBoundsOffCount_d044e_3 : decode cJ2_checkBoundsOffCount_d044e 3 = .ok (.invokestatic 48, 3) := dkAt dk_J2_checkBoundsOffCount_d044e 3 rfl
theorem dj_J2_checkBoundsOffCount_d044e_6 : decode cJ2_checkBoundsOffCount_d044e 6 = .ok (.invokestatic 419, 3) := dkAt dk_J2_checkBoundsOffCount_d044e 4 rfl
theorem dj_J2_checkBoundsOffCount_d044e_9 : decode cJ2_checkBoundsOffCount_d044e 9 = .ok (.pop, 1) := dkAt dk_J2_checkBoundsOffCount_d044e 5 rfl
theorem dj_J2_checkBoundsOffCount_d044e_10 : decode cJ2_checkBoundsOffCount_d044e 10 = .ok (.return_, 1) := dkAt dk_J2_checkBoundsOffCount_d044e 6 rfl
theorem dj_J7_fill_d0a16_0 : decode cJ7_fill_d0a16 0 = .ok (.iconst 0, 1) := dkAt dk_J7_fill_d0a16 0 rfl
theorem dj_J7_fill_d0a16_1 : decode cJ7_fill_d0a16 1 = .ok (.istore_n 3, 1) := dkAt dk_J7_fill_d0a16 1 rfl
theorem dj_J7_fill_d0a16_2 : decode cJ7_fill_d0a16 2 = .ok (.aload_n 0, 1) := dkAt dk_J7_fill_d0a16 2 rfl
theorem dj_J7_fill_d0a16_3 : decode cJ7_fill_d0a16 3 = .ok (.arraylength, 1) := dkAt dk_J7_fill_d0a16 3 rfl
theorem dj_J7_fill_d0a16_4 : decode cJ7_fill_d0a16 4 = .ok (.istore 4, 2) := dkAt dk_J7_fill_d0a16 4 rfl
theorem dj_J7_fill_d0a16_6 : decode cJ7_fill_d0a16 6 = .ok (.iload_n 3, 1) := dkAt dk_J7_fill_d0a16 5 rfl
theorem dj_J7_fill_d0a16_7 : decode cJ7_fill_d0a16 7 = .ok (.iload 4, 2) := dkAt dk_J7_fill_d0a16 6 rfl
theorem dj_J7_fill_d0a16_9 : decode cJ7_fill_d0a16 9 = .ok (.if_icmp .ge 13, 3) := dkAt dk_J7_fill_d0a16 7 rfl
theorem dj_J7_fill_d0a16_12 : decode cJ7_fill_d0a16 12 = .ok (.aload_n 0, 1) := dkAt dk_J7_fill_d0a16 8 rfl
theorem dj_J7_fill_d0a16_13 : decode cJ7_fill_d0a16 13 = .ok (.iload_n 3, 1) := dkAt dk_J7_fill_d0a16 9 rfl
theorem dj_J7_fill_d0a16_14 : decode cJ7_fill_d0a16 14 = .ok (.lload_n 1, 1) := dkAt dk_J7_fill_d0a16 10 rfl
theorem dj_J7_fill_d0a16_15 : decode cJ7_fill_d0a16 15 = .ok (.lastore, 1) := dkAt dk_J7_fill_d0a16 11 rfl
theorem dj_J7_fill_d0a16_16 : decode cJ7_fill_d0a16 16 = .ok (.iinc 3 1, 3) := dkAt dk_J7_fill_d0a16 12 rfl
theorem dj_J7_fill_d0a16_19 : decode cJ7_fill_d0a16 19 = .ok (.goto (-13), 3) := dkAt dk_J7_fill_d0a16 13 rfl
theorem dj_J7_fill_d0a16_22 : decode cJ7_fill_d0a16 22 = .ok (.return_, 1) := dkAt dk_J7_fill_d0a16 14 rfl
theorem dj_J7_fill_53178_0 : decode cJ7_fill_53178 0 = .ok (.iconst 0, 1) := dkAt dk_J7_fill_53178 0 rfl
theorem dj_J7_fill_53178_1 : decode cJ7_fill_53178 1 = .ok (.istore_n 2, 1) := dkAt dk_J7_fill_53178 1 rfl
theorem dj_J7_fill_53178_2 : decode cJ7_fill_53178 2 = .ok (.aload_n 0, 1) := dkAt dk_J7_fill_53178 2 rfl
theorem dj_J7_fill_53178_3 : decode cJ7_fill_53178 3 = .ok (.arraylength, 1) := dkAt dk_J7_fill_53178 3 rfl
theorem dj_J7_fill_53178_4 : decode cJ7_fill_53178 4 = .ok (.istore_n 3, 1) := dkAt dk_J7_fill_53178 4 rfl
theorem dj_J7_fill_53178_5 : decode cJ7_fill_53178 5 = .ok (.iload_n 2, 1) := dkAt dk_J7_fill_53178 5 rfl
theorem dj_J7_fill_53178_6 : decode cJ7_fill_53178 6 = .ok (.iload_n 3, 1) := dkAt dk_J7_fill_53178 6 rfl
theorem dj_J7_fill_53178_7 : decode cJ7_fill_53178 7 = .ok (.if_icmp .ge 13, 3) := dkAt dk_J7_fill_53178 7 rfl
theorem dj_J7_fill_53178_10 : decode cJ7_fill_53178 10 = .ok (.aload_n 0, 1) := dkAt dk_J7_fill_53178 8 rfl
theorem dj_J7_fill_53178_11 : decode cJ7_fill_53178 11 = .ok (.iload_n 2, 1) := dkAt dk_J7_fill_53178 9 rfl
theorem dj_J7_fill_53178_12 : decode cJ7_fill_53178 12 = .ok (.iload_n 1, 1) := dkAt dk_J7_fill_53178 10 rfl
theorem dj_J7_fill_53178_13 : decode cJ7_fill_53178 13 = .ok (.iastore, 1) := dkAt dk_J7_fill_53178 11 rfl
theorem dj_J7_fill_53178_14 : decode cJ7_fill_53178 14 = .ok (.iinc 2 1, 3) := dkAt dk_J7_fill_53178 12 rfl
theorem dj_J7_fill_53178_17 : decode cJ7_fill_53178 17 = .ok (.goto (-12), 3) := dkAt dk_J7_fill_53178 13 rfl
theorem dj_J7_fill_53178_20 : decode cJ7_fill_53178 20 = .ok (.return_, 1) := dkAt dk_J7_fill_53178 14 rfl
theorem mw_J7_copyOf_9075b : MW yJ7_copyOf_9075b cJ7_copyOf_9075b 3 (some (.array .byte)) 2 := ⟨gd 55 (by decide +kernel) rfl, gd 558 (by decide +kernel) rfl, ⟨by decide, by decide⟩, by decide +kernel⟩
theorem ms_J7_copyOf_9075b : Gd (.static yJ7_copyOf_9075b) := gd 557 (by decide +kernel) rfl
theorem dj_J7_copyOf_9075b_0 : decode cJ7_copyOf_9075b 0 = .ok (.iload_n 1, 1) := dkAt dk_J7_copyOf_9075b 0 rfl
theorem dj_J7_copyOf_9075b_1 : decode cJ7_copyOf_9075b 1 = .ok (.aload_n 0, 1) := dkAt dk_J7_copyOf_9075b 1 rfl
theorem dj_J7_copyOf_9075b_2 : decode cJ7_copyOf_9075b 2 = .ok (.arraylength, 1) := dkAt dk_J7_copyOf_9075b 2 rfl
theorem dj_J7_copyOf_9075b_3 : decode cJ7_copyOf_9075b 3 = .ok (.if_icmp .ne 11, 3) := dkAt dk_J7_copyOf_9075b 3 rfl
theorem dj_J7_copyOf_9075b_6 : decode cJ7_copyOf_9075b 6 = .ok (.aload_n 0, 1) := dkAt dk_J7_copyOf_9075b 4 rfl
theorem dj_J7_copyOf_9075b_7 : decode cJ7_copyOf_9075b 7 = .ok (.invokevirtual 310, 3) := dkAt dk_J7_copyOf_9075b 5 rfl
theorem dj_J7_copyOf_9075b_10 : decode cJ7_copyOf_9075b 10 = .ok (.checkcast 311, 3) := dkAt dk_J7_copyOf_9075b 6 rfl
theorem dj_J7_copyOf_9075b_13 : decode cJ7_copyOf_9075b 13 = .ok (.areturn, 1) := dkAt dk_J7_copyOf_9075b 7 rfl
theorem dj_J7_copyOf_9075b_14 : decode cJ7_copyOf_9075b 14 = .ok (.iload_n 1, 1) := dkAt dk_J7_copyOf_9075b 8 rfl
theorem dj_J7_copyOf_9075b_15 : decode cJ7_copyOf_9075b 15 = .ok (.newarray .byte, 2) := dkAt dk_J7_copyOf_9075b 9 rfl
theorem dj_J7_copyOf_9075b_17 : decode cJ7_copyOf_9075b 17 = .ok (.astore_n 2, 1) := dkAt dk_J7_copyOf_9075b 10 rfl
theorem dj_J7_copyOf_9075b_18 : decode cJ7_copyOf_9075b 18 = .ok (.aload_n 0, 1) := dkAt dk_J7_copyOf_9075b 11 rfl
theorem dj_J7_copyOf_9075b_19 : decode cJ7_copyOf_9075b 19 = .ok (.iconst 0, 1) := dkAt dk_J7_copyOf_9075b 12 rfl
theorem dj_J7_copyOf_9075b_20 : decode cJ7_copyOf_9075b 20 = .ok (.aload_n 2, 1) := dkAt dk_J7_copyOf_9075b 13 rfl
theorem dj_J7_copyOf_9075b_21 : decode cJ7_copyOf_9075b 21 = .ok (.iconst 0, 1) := dkAt dk_J7_copyOf_9075b 14 rfl
theorem dj_J7_copyOf_9075b_22 : decode cJ7_copyOf_9075b 22 = .ok (.aload_n 0, 1) := dkAt dk_J7_copyOf_9075b 15 rfl
theorem dj_J7_copyOf_9075b_23 : decode cJ7_copyOf_9075b 23 = .ok (.arraylength, 1) := dkAt dk_J7_copyOf_9075b 16 rfl
theorem dj_J7_copyOf_9075b_24 : decode cJ7_copyOf_9075b 24 = .ok (.iload_n 1, 1) := dkAt dk_J7_copyOf_9075b 17 rfl
theorem dj_J7_copyOf_9075b_25 : decode cJ7_copyOf_9075b 25 = .ok (.invokestatic 304, 3) := dkAt dk_J7_copyOf_9075b 18 rfl
theorem dj_J7_copyOf_9075b_28 : decode cJ7_copyOf_9075b 28 = .ok (.invokestatic 150, 3) := dkAt dk_J7_copyOf_9075b 19 rfl
theorem dj_J7_copyOf_9075b_31 : decode cJ7_copyOf_9075b 31 = .ok (.aload_n 2, 1) := dkAt dk_J7_copyOf_9075b 20 rfl
theorem dj_J7_copyOf_9075b_32 : decode cJ7_copyOf_9075b 32 = .ok (.areturn, 1) := dkAt dk_J7_copyOf_9075b 21 rfl
theorem mw_J7_checkLength_df160 : MW yJ7_checkLength_df160 cJ7_checkLength_df160 2 none 2 := ⟨gd 55 (by decide +kernel) rfl, gd 1641 (by decide +kernel) rfl, ⟨by decide, by decide⟩, by decide +kernel⟩
theorem ms_J7_checkLength_df160 : Gd (.static yJ7_checkLength_df160) := gd 1640 (by decide +kernel) rfl
theorem dj_J7_checkLength_df160_0 : decode cJ7_checkLength_df160 0 = .ok (.iload_n 1, 1) := dkAt dk_J7_checkLength_df160 0 rfl
theorem dj_J7_checkLength_df160_1 : decode cJ7_checkLength_df160 1 = .ok (.iload_n 0, 1) := dkAt dk_J7_checkLength_df160 1 rfl
theorem dj_J7_checkLength_df160_2 : decode cJ7_checkLength_df160 2 = .ok (.if_icmp .ge 35, 3) := dkAt dk_J7_checkLength_df160 2 rfl
theorem dj_J7_checkLength_df160_5 : decode cJ7_checkLength_df160 5 = .ok (.new 43, 3) := dkAt dk_J7_checkLength_df160 3 rfl
theorem dj_J7_checkLength_df160_8 : decode cJ7_checkLength_df160 8 = .ok (.dup, 1) := dkAt dk_J7_checkLength_df160 4 rfl
theorem dj_J7_checkLength_df160_9 : decode cJ7_checkLength_df160 9 = .ok (.new 45, 3) := dkAt dk_J7_checkLength_df160 5 rfl
theorem dj_J7_checkLength_df160_12 : decode cJ7_checkLength_df160 12 = .ok (.dup, 1) := dkAt dk_J7_checkLength_df160 6 rfl
theorem dj_J7_checkLength_df160_13 : decode cJ7_checkLength_df160 13 = .ok (.invokespecial 47, 3) := dkAt dk_J7_checkLength_df160 7 rfl
theorem dj_J7_checkLength_df160_16 : decode cJ7_checkLength_df160 16 = .ok (.iload_n 0, 1) := dkAt dk_J7_checkLength_df160 8 rfl
theorem dj_J7_checkLength_df160_17 : decode cJ7_checkLength_df160 17 = .ok (.invokevirtual 54, 3) := dkAt dk_J7_checkLength_df160 9 rfl
theorem dj_J7_checkLength_df160_20 : decode cJ7_checkLength_df160 20 = .ok (.ldc_w 337, 3) := dkAt dk_J7_checkLength_df160 10 rfl
theorem dj_J7_checkLength_df160_23 : decode cJ7_checkLength_df160 23 = .ok (.invokevirtual 50, 3) := dkAt dk_J7_checkLength_df160 11 rfl
theorem dj_J7_checkLength_df160_26 : decode cJ7_checkLength_df160 26 = .ok (.iload_n 1, 1) := dkAt dk_J7_checkLength_df160 12 rfl
theorem dj_J7_checkLength_df160_27 : decode cJ7_checkLength_df160 27 = .ok (.invokevirtual 54, 3) := dkAt dk_J7_checkLength_df160 13 rfl
theorem dj_J7_checkLength_df160_30 : decode cJ7_checkLength_df160 30 = .ok (.invokevirtual 61, 3) := dkAt dk_J7_checkLength_df160 14 rfl
theorem dj_J7_checkLength_df160_33 : decode cJ7_checkLength_df160 33 = .ok (.invokespecial 65, 3) := dkAt dk_J7_checkLength_df160 15 rfl
theorem dj_J7_checkLength_df160_36 : decode cJ7_checkLength_df160 36 = .ok (.athrow, 1) := dkAt dk_J7_checkLength_df160 16 rfl
theorem dj_J7_checkLength_df160_37 : decode cJ7_checkLength_df160 37 = .ok (.return_, 1) := dkAt dk_J7_checkLength_df160 17 rfl
theorem mw_J7_copyOfRange_39247 : MW yJ7_copyOfRange_39247 cJ7_copyOfRange_39247 3 (some (.array .byte)) 3 := ⟨gd 55 (by decide +kernel) rfl, gd 1635 (by decide +kernel) rfl, ⟨by decide, by decide⟩, by decide +kernel⟩
theorem ms_J7_copyOfRange_39247 : Gd (.static yJ7_copyOfRange_39247) := gd 1634 (by decide +kernel) rfl
theorem dj_J7_copyOfRange_39247_0 : decode cJ7_copyOfRange_39247 0 = .ok (.iload_n 1, 1) := dkAt dk_J7_copyOfRange_39247 0 rfl
theorem dj_J7_copyOfRange_39247_1 : decode cJ7_copyOfRange_39247 1 = .ok (.ifCond .ne 9, 3) := dkAt dk_J7_copyOfRange_39247 1 rfl
theorem dj_J7_copyOfRange_39247_4 : decode cJ7_copyOfRange_39247 4 = .ok (.iload_n 2, 1) := dkAt dk_J7_copyOfRange_39247 2 rfl
theorem dj_J7_copyOfRange_39247_5 : decode cJ7_copyOfRange_39247 5 = .ok (.aload_n 0, 1) := dkAt dk_J7_copyOfRange_39247 3 rfl
theorem dj_J7_copyOfRange_39247_6 : decode cJ7_copyOfRange_39247 6 = .ok (.arraylength, 1) := dkAt dk_J7_copyOfRange_39247 4 rfl
theorem dj_J7_copyOfRange_39247_7 : decode cJ7_copyOfRange_39247 7 = .ok (.if_icmp .eq 10, 3) := dkAt dk_J7_copyOfRange_39247 5 rfl
theorem dj_J7_copyOfRange_39247_10 : decode cJ7_copyOfRange_39247 10 = .ok (.aload_n 0, 1) := dkAt dk_J7_copyOfRange_39247 6 rfl
theorem dj_J7_copyOfRange_39247_11 : decode cJ7_copyOfRange_39247 11 = .ok (.iload_n 1, 1) := dkAt dk_J7_copyOfRange_39247 7 rfl
theorem dj_J7_copyOfRange_39247_12 : decode cJ7_copyOfRange_39247 12 = .ok (.iload_n 2, 1) := dkAt dk_J7_copyOfRange_39247 8 rfl
theorem dj_J7_copyOfRange_39247_13 : decode cJ7_copyOfRange_39247 13 = .ok (.invokestatic 339, 3) := dkAt dk_J7_copyOfRange_39247 9 rfl
theorem dj_J7_copyOfRange_39247_16 : decode cJ7_copyOfRange_39247 16 = .ok (.areturn, 1) := dkAt dk_J7_copyOfRange_39247 10 rfl
theorem dj_J7_copyOfRange_39247_17 : decode cJ7_copyOfRange_39247 17 = .ok (.aload_n 0, 1) := dkAt dk_J7_copyOfRange_39247 11 rfl
theorem dj_J7_copyOfRange_39247_18 : decode cJ7_copyOfRange_39247 18 = .ok (.invokevirtual 310, 3) := dkAt dk_J7_copyOfRange_39247 12 rfl
theorem dj_J7_copyOfRange_39247_21 : decode cJ7_copyOfRange_39247 21 = .ok (.checkcast 311, 3) := dkAt dk_J7_copyOfRange_39247 13 rfl
theorem dj_J7_copyOfRange_39247_24 : decode cJ7_copyOfRange_39247 24 = .ok (.areturn, 1) := dkAt dk_J7_copyOfRange_39247 14 rfl
theorem mw_J7_copyOfRangeByte_39247 : MW yJ7_copyOfRangeByte_39247 cJ7_copyOfRangeByte_39247 5 (some (.array .byte)) 3 := ⟨gd 55 (by decide +kernel) rfl, gd 1638 (by decide +kernel) rfl, ⟨by decide, by decide⟩, by decide +kernel⟩
theorem ms_J7_copyOfRangeByte_39247 : Gd (.static yJ7_copyOfRangeByte_39247) := gd 1637 (by decide +kernel) rfl
theorem dj_J7_copyOfRangeByte_39247_0 : decode cJ7_copyOfRangeByte_39247 0 = .ok (.iload_n 1, 1) := dkAt dk_J7_copyOfRangeByte_39247 0 rfl
theorem dj_J7_copyOfRangeByte_39247_1 : decode cJ7_copyOfRangeByte_39247 1 = .ok (.iload_n 2, 1) := dkAt dk_J7_copyOfRangeByte_39247 1 rfl
theorem dj_J7_copyOfRangeByte_39247_2 : decode cJ7_copyOfRangeByte_39247 2 = .ok (.invokestatic 343, 3) := dkAt dk_J7_copyOfRangeByte_39247 2 rfl
theorem dj_J7_copyOfRangeByte_39247_5 : decode cJ7_copyOfRangeByte_39247 5 = .ok (.iload_n 2, 1) := dkAt dk_J7_copyOfRangeByte_39247 3 rfl
theorem dj_J7_copyOfRangeByte_39247_6 : decode cJ7_copyOfRangeByte_39247 6 = .ok (.iload_n 1, 1) := dkAt dk_J7_copyOfRangeByte_39247 4 rfl
theorem dj_J7_copyOfRangeByte_39247_7 : decode cJ7_copyOfRangeByte_39247 7 = .ok (.isub, 1) := dkAt dk_J7_copyOfRangeByte_39247 5 rfl
theorem dj_J7_copyOfRangeByte_39247_8 : decode cJ7_copyOfRangeByte_39247 8 = .ok (.istore_n 3, 1) := dkAt dk_J7_copyOfRangeByte_39247 6 rfl
theorem dj_J7_copyOfRangeByte_39247_9 : decode cJ7_copyOfRangeByte_39247 9 = .ok (.iload_n 3, 1) := dkAt dk_J7_copyOfRangeByte_39247 7 rfl
theorem dj_J7_copyOfRangeByte_39247_10 : decode cJ7_copyOfRangeByte_39247 10 = .ok (.newarray .byte, 2) := dkAt dk_J7_copyOfRangeByte_39247 8 rfl
theorem dj_J7_copyOfRangeByte_39247_12 : decode cJ7_copyOfRangeByte_39247 12 = .ok (.astore 4, 2) := dkAt dk_J7_copyOfRangeByte_39247 9 rfl
theorem dj_J7_copyOfRangeByte_39247_14 : decode cJ7_copyOfRangeByte_39247 14 = .ok (.aload_n 0, 1) := dkAt dk_J7_copyOfRangeByte_39247 10 rfl
theorem dj_J7_copyOfRangeByte_39247_15 : decode cJ7_copyOfRangeByte_39247 15 = .ok (.iload_n 1, 1) := dkAt dk_J7_copyOfRangeByte_39247 11 rfl
theorem dj_J7_copyOfRangeByte_39247_16 : decode cJ7_copyOfRangeByte_39247 16 = .ok (.aload 4, 2) := dkAt dk_J7_copyOfRangeByte_39247 12 rfl
theorem dj_J7_copyOfRangeByte_39247_18 : decode cJ7_copyOfRangeByte_39247 18 = .ok (.iconst 0, 1) := dkAt dk_J7_copyOfRangeByte_39247 13 rfl
theorem dj_J7_copyOfRangeByte_39247_19 : decode cJ7_copyOfRangeByte_39247 19 = .ok (.aload_n 0, 1) := dkAt dk_J7_copyOfRangeByte_39247 14 rfl
theorem dj_J7_copyOfRangeByte_39247_20 : decode cJ7_copyOfRangeByte_39247 20 = .ok (.arraylength, 1) := dkAt dk_J7_copyOfRangeByte_39247 15 rfl
theorem dj_J7_copyOfRangeByte_39247_21 : decode cJ7_copyOfRangeByte_39247 21 = .ok (.iload_n 1, 1) := dkAt dk_J7_copyOfRangeByte_39247 16 rfl
theorem dj_J7_copyOfRangeByte_39247_22 : decode cJ7_copyOfRangeByte_39247 22 = .ok (.isub, 1) := dkAt dk_J7_copyOfRangeByte_39247 17 rfl
theorem dj_J7_copyOfRangeByte_39247_23 : decode cJ7_copyOfRangeByte_39247 23 = .ok (.iload_n 3, 1) := dkAt dk_J7_copyOfRangeByte_39247 18 rfl
theorem dj_J7_copyOfRangeByte_39247_24 : decode cJ7_copyOfRangeByte_39247 24 = .ok (.invokestatic 304, 3) := dkAt dk_J7_copyOfRangeByte_39247 19 rfl
theorem dj_J7_copyOfRangeByte_39247_27 : decode cJ7_copyOfRangeByte_39247 27 = .ok (.invokestatic 150, 3) := dkAt dk_J7_copyOfRangeByte_39247 20 rfl
theorem dj_J7_copyOfRangeByte_39247_30 : decode cJ7_copyOfRangeByte_39247 30 = .ok (.aload 4, 2) := dkAt dk_J7_copyOfRangeByte_39247 21 rfl
theorem dj_J7_copyOfRangeByte_39247_32 : decode cJ7_copyOfRangeByte_39247 32 = .ok (.areturn, 1) := dkAt dk_J7_copyOfRangeByte_39247 22 rfl
theorem mw_J8_newLength_cabcc : MW yJ8_newLength_cabcc cJ8_newLength_cabcc 4 (some .int) 3 := ⟨gd 53 (by decide +kernel) rfl, gd 548 (by decide +kernel) rfl, ⟨by decide, by decide⟩, by decide +kernel⟩
theorem ms_J8_newLength_cabcc : Gd (.static yJ8_newLength_cabcc) := gd 547 (by decide +kernel) rfl
theorem dj_J8_newLength_cabcc_0 : decode cJ8_newLength_cabcc 0 = .ok (.iload_n 0, 1) := dkAt dk_J8_newLength_cabcc 0 rfl
theorem dj_J8_newLength_cabcc_1 : decode cJ8_newLength_cabcc 1 = .ok (.iload_n 1, 1) := dkAt dk_J8_newLength_cabcc 1 rfl
theorem dj_J8_newLength_cabcc_2 : decode cJ8_newLength_cabcc 2 = .ok (.iload_n 2, 1) := dkAt dk_J8_newLength_cabcc 2 rfl
theorem dj_J8_newLength_cabcc_3 : decode cJ8_newLength_cabcc 3 = .ok (.invokestatic 194, 3) := dkAt dk_J8_newLength_cabcc 3 rfl
theorem dj_J8_newLength_cabcc_6 : decode cJ8_newLength_cabcc 6 = .ok (.iadd, 1) := dkAt dk_J8_newLength_cabcc 4 rfl
theorem dj_J8_newLength_cabcc_7 : decode cJ8_newLength_cabcc 7 = .ok (.istore_n 3, 1) := dkAt dk_J8_newLength_cabcc 5 rfl
theorem dj_J8_newLength_cabcc_8 : decode cJ8_newLength_cabcc 8 = .ok (.iconst 0, 1) := dkAt dk_J8_newLength_cabcc 6 rfl
theorem dj_J8_newLength_cabcc_9 : decode cJ8_newLength_cabcc 9 = .ok (.iload_n 3, 1) := dkAt dk_J8_newLength_cabcc 7 rfl
theorem dj_J8_newLength_cabcc_10 : decode cJ8_newLength_cabcc 10 = .ok (.if_icmp .ge 11, 3) := dkAt dk_J8_newLength_cabcc 8 rfl
theorem dj_J8_newLength_cabcc_13 : decode cJ8_newLength_cabcc 13 = .ok (.iload_n 3, 1) := dkAt dk_J8_newLength_cabcc 9 rfl
theorem dj_J8_newLength_cabcc_14 : decode cJ8_newLength_cabcc 14 = .ok (.ldc 200, 2) := dkAt dk_J8_newLength_cabcc 10 rfl
theorem dj_J8_newLength_cabcc_16 : decode cJ8_newLength_cabcc 16 = .ok (.if_icmp .gt 5, 3) := dkAt dk_J8_newLength_cabcc 11 rfl
theorem dj_J8_newLength_cabcc_19 : decode cJ8_newLength_cabcc 19 = .ok (.iload_n 3, 1) := dkAt dk_J8_newLength_cabcc 12 rfl
theorem dj_J8_newLength_cabcc_20 : decode cJ8_newLength_cabcc 20 = .ok (.ireturn, 1) := dkAt dk_J8_newLength_cabcc 13 rfl
theorem dj_J8_newLength_cabcc_21 : decode cJ8_newLength_cabcc 21 = .ok (.iload_n 0, 1) := dkAt dk_J8_newLength_cabcc 14 rfl
theorem dj_J8_newLength_cabcc_22 : decode cJ8_newLength_cabcc 22 = .ok (.iload_n 1, 1) := dkAt dk_J8_newLength_cabcc 15 rfl
theorem dj_J8_newLength_cabcc_23 : decode cJ8_newLength_cabcc 23 = .ok (.invokestatic 201, 3) := dkAt dk_J8_newLength_cabcc 16 rfl
theorem dj_J8_newLength_cabcc_26 : decode cJ8_newLength_cabcc 26 = .ok (.ireturn, 1) := dkAt dk_J8_newLength_cabcc 17 rfl
theorem mw_J8_hugeLength_7cf53 : MW yJ8_hugeLength_7cf53 cJ8_hugeLength_7cf53 3 (some .int) 2 := ⟨gd 53 (by decide +kernel) rfl, gd 555 (by decide +kernel) rfl, ⟨by decide, by decide⟩, by decide +kernel⟩
theorem ms_J8_hugeLength_7cf53 : Gd (.static yJ8_hugeLength_7cf53) := gd 554 (by decide +kernel) rfl
theorem dj_J8_hugeLength_7cf53_0 : decode cJ8_hugeLength_7cf53 0 = .ok (.iload_n 0, 1) := dkAt dk_J8_hugeLength_7cf53 0 rfl
theorem dj_J8_hugeLength_7cf53_1 : decode cJ8_hugeLength_7cf53 1 = .ok (.iload_n 1, 1) := dkAt dk_J8_hugeLength_7cf53 1 rfl
theorem dj_J8_hugeLength_7cf53_2 : decode cJ8_hugeLength_7cf53 2 = .ok (.iadd, 1) := dkAt dk_J8_hugeLength_7cf53 2 rfl
theorem dj_J8_hugeLength_7cf53_3 : decode cJ8_hugeLength_7cf53 3 = .ok (.istore_n 2, 1) := dkAt dk_J8_hugeLength_7cf53 3 rfl
theorem dj_J8_hugeLength_7cf53_4 : decode cJ8_hugeLength_7cf53 4 = .ok (.iload_n 2, 1) := dkAt dk_J8_hugeLength_7cf53 4 rfl
theorem dj_J8_hugeLength_7cf53_5 : decode cJ8_hugeLength_7cf53 5 = .ok (.ifCond .ge 44, 3) := dkAt dk_J8_hugeLength_7cf53 5 rfl
theorem dj_J8_hugeLength_7cf53_8 : decode cJ8_hugeLength_7cf53 8 = .ok (.new 204, 3) := dkAt dk_J8_hugeLength_7cf53 6 rfl
theorem dj_J8_hugeLength_7cf53_11 : decode cJ8_hugeLength_7cf53 11 = .ok (.dup, 1) := dkAt dk_J8_hugeLength_7cf53 7 rfl
theorem dj_J8_hugeLength_7cf53_12 : decode cJ8_hugeLength_7cf53 12 = .ok (.new 89, 3) := dkAt dk_J8_hugeLength_7cf53 8 rfl
theorem dj_J8_hugeLength_7cf53_15 : decode cJ8_hugeLength_7cf53 15 = .ok (.dup, 1) := dkAt dk_J8_hugeLength_7cf53 9 rfl
theorem dj_J8_hugeLength_7cf53_16 : decode cJ8_hugeLength_7cf53 16 = .ok (.invokespecial 91, 3) := dkAt dk_J8_hugeLength_7cf53 10 rfl
theorem dj_J8_hugeLength_7cf53_19 : decode cJ8_hugeLength_7cf53 19 = .ok (.ldc 206, 2) := dkAt dk_J8_hugeLength_7cf53 11 rfl
theorem dj_J8_hugeLength_7cf53_21 : decode cJ8_hugeLength_7cf53 21 = .ok (.invokevirtual 94, 3) := dkAt dk_J8_hugeLength_7cf53 12 rfl
theorem dj_J8_hugeLength_7cf53_24 : decode cJ8_hugeLength_7cf53 24 = .ok (.iload_n 0, 1) := dkAt dk_J8_hugeLength_7cf53 13 rfl
theorem dj_J8_hugeLength_7cf53_25 : decode cJ8_hugeLength_7cf53 25 = .ok (.invokevirtual 98, 3) := dkAt dk_J8_hugeLength_7cf53 14 rfl
theorem dj_J8_hugeLength_7cf53_28 : decode cJ8_hugeLength_7cf53 28 = .ok (.ldc 208, 2) := dkAt dk_J8_hugeLength_7cf53 15 rfl
theorem dj_J8_hugeLength_7cf53_30 : decode cJ8_hugeLength_7cf53 30 = .ok (.invokevirtual 94, 3) := dkAt dk_J8_hugeLength_7cf53 16 rfl
theorem dj_J8_hugeLength_7cf53_33 : decode cJ8_hugeLength_7cf53 33 = .ok (.iload_n 1, 1) := dkAt dk_J8_hugeLength_7cf53 17 rfl
theorem dj_J8_hugeLength_7cf53_34 : decode cJ8_hugeLength_7cf53 34 = .ok (.invokevirtual 98, 3) := dkAt dk_J8_hugeLength_7cf53 18 rfl
theorem dj_J8_hugeLength_7cf53_37 : decode cJ8_hugeLength_7cf53 37 = .ok (.ldc 210, 2) := dkAt dk_J8_hugeLength_7cf53 19 rfl
theorem dj_J8_hugeLength_7cf53_39 : decode cJ8_hugeLength_7cf53 39 = .ok (.invokevirtual 94, 3) := dkAt dk_J8_hugeLength_7cf53 20 rfl
theorem dj_J8_hugeLength_7cf53_42 : decode cJ8_hugeLength_7cf53 42 = .ok (.invokevirtual 101, 3) := dkAt dk_J8_hugeLength_7cf53 21 rfl
theorem dj_J8_hugeLength_7cf53_45 : decode cJ8_hugeLength_7cf53 45 = .ok (.invokespecial 212, 3) := dkAt dk_J8_hugeLength_7cf53 22 rfl
theorem dj_J8_hugeLength_7cf53_48 : decode cJ8_hugeLength_7cf53 48 = .ok (.athrow, 1) := dkAt dk_J8_hugeLength_7cf53 23 rfl
theorem dj_J8_hugeLength_7cf53_49 : decode cJ8_hugeLength_7cf53 49 = .ok (.iload_n 2, 1) := dkAt dk_J8_hugeLength_7cf53 24 rfl
theorem dj_J8_hugeLength_7cf53_50 : decode cJ8_hugeLength_7cf53 50 = .ok (.ldc 200, 2) := dkAt dk_J8_hugeLength_7cf53 25 rfl
theorem dj_J8_hugeLength_7cf53_52 : decode cJ8_hugeLength_7cf53 52 = .ok (.if_icmp .gt 6, 3) := dkAt dk_J8_hugeLength_7cf53 26 rfl
theorem dj_J8_hugeLength_7cf53_55 : decode cJ8_hugeLength_7cf53 55 = .ok (.ldc 200, 2) := dkAt dk_J8_hugeLength_7cf53 27 rfl
theorem dj_J8_hugeLength_7cf53_57 : decode cJ8_hugeLength_7cf53 57 = .ok (.ireturn, 1) := dkAt dk_J8_hugeLength_7cf53 28 rfl
theorem dj_J8_hugeLength_7cf53_58 : decode cJ8_hugeLength_7cf53 58 = .ok (.iload_n 2, 1) := dkAt dk_J8_hugeLength_7cf53 29 rfl
theorem dj_J8_hugeLength_7cf53_59 : decode cJ8_hugeLength_7cf53 59 = .ok (.ireturn, 1) := dkAt dk_J8_hugeLength_7cf53 30 rfl
theorem mw_J3_checkIndex_8e157 : MW yJ3_checkIndex_8e157 cJ3_checkIndex_8e157 3 (some .int) 3 := ⟨gd 57 (by decide +kernel) rfl, gd 721 (by decide +kernel) rfl, ⟨by decide, by decide⟩, by decide +kernel⟩
theorem ms_J3_checkIndex_8e157 : Gd (.static yJ3_checkIndex_8e157) := gd 720 (by decide +kernel) rfl
theorem dj_J3_checkIndex_8e157_0 : decode cJ3_checkIndex_8e157 0 = .ok (.iload_n 0, 1) := dkAt dk_J3_checkIndex_8e157 0 rfl
theorem dj_J3_checkIndex_8e157_1 : decode cJ3_checkIndex_8e157 1 = .ok (.ifCond .lt 8, 3) := dkAt dk_J3_checkIndex_8e157 1 rfl
theorem dj_J3_checkIndex_8e157_4 : decode cJ3_checkIndex_8e157 4 = .ok (.iload_n 0, 1) := dkAt dk_J3_checkIndex_8e157 2 rfl
theorem dj_J3_checkIndex_8e157_5 : decode cJ3_checkIndex_8e157 5 = .ok (.iload_n 1, 1) := dkAt dk_J3_checkIndex_8e157 3 rfl
theorem dj_J3_checkIndex_8e157_6 : decode cJ3_checkIndex_8e157 6 = .ok (.if_icmp .lt 10, 3) := dkAt dk_J3_checkIndex_8e157 4 rfl
theorem dj_J3_checkIndex_8e157_9 : decode cJ3_checkIndex_8e157 9 = .ok (.aload_n 2, 1) := dkAt dk_J3_checkIndex_8e157 5 rfl
theorem dj_J3_checkIndex_8e157_10 : decode cJ3_checkIndex_8e157 10 = .ok (.iload_n 0, 1) := dkAt dk_J3_checkIndex_8e157 6 rfl
theorem dj_J3_checkIndex_8e157_11 : decode cJ3_checkIndex_8e157 11 = .ok (.iload_n 1, 1) := dkAt dk_J3_checkIndex_8e157 7 rfl
theorem dj_J3_checkIndex_8e157_12 : decode cJ3_checkIndex_8e157 12 = .ok (.invokestatic 95, 3) := dkAt dk_J3_checkIndex_8e157 8 rfl
theorem dj_J3_checkIndex_8e157_15 : decode cJ3_checkIndex_8e157 15 = .ok (.athrow, 1) := dkAt dk_J3_checkIndex_8e157 9 rfl
theorem dj_J3_checkIndex_8e157_16 : decode cJ3_checkIndex_8e157 16 = .ok (.iload_n 0, 1) := dkAt dk_J3_checkIndex_8e157 10 rfl
theorem dj_J3_checkIndex_8e157_17 : decode cJ3_checkIndex_8e157 17 = .ok (.ireturn, 1) := dkAt dk_J3_checkIndex_8e157 11 rfl
theorem mw_J3_checkFromToIndex_8c36e : MW yJ3_checkFromToIndex_8c36e cJ3_checkFromToIndex_8c36e 4 (some .int) 4 := ⟨gd 57 (by decide +kernel) rfl, gd 594 (by decide +kernel) rfl, ⟨by decide, by decide⟩, by decide +kernel⟩
theorem ms_J3_checkFromToIndex_8c36e : Gd (.static yJ3_checkFromToIndex_8c36e) := gd 593 (by decide +kernel) rfl
theorem dj_J3_checkFromToIndex_8c36e_0 : decode cJ3_checkFromToIndex_8c36e 0 = .ok (.iload_n 0, 1) := dkAt dk_J3_checkFromToIndex_8c36e 0 rfl
theorem dj_J3_checkFromToIndex_8c36e_1 : decode cJ3_checkFromToIndex_8c36e 1 = .ok (.ifCond .lt 13, 3) := dkAt dk_J3_checkFromToIndex_8c36e 1 rfl
theorem dj_J3_checkFromToIndex_8c36e_4 : decode cJ3_checkFromToIndex_8c36e 4 = .ok (.iload_n 0, 1) := dkAt dk_J3_checkFromToIndex_8c36e 2 rfl
theorem dj_J3_checkFromToIndex_8c36e_5 : decode cJ3_checkFromToIndex_8c36e 5 = .ok (.iload_n 1, 1) := dkAt dk_J3_checkFromToIndex_8c36e 3 rfl
theorem dj_J3_checkFromToIndex_8c36e_6 : decode cJ3_checkFromToIndex_8c36e 6 = .ok (.if_icmp .gt 8, 3) := dkAt dk_J3_checkFromToIndex_8c36e 4 rfl
theorem dj_J3_checkFromToIndex_8c36e_9 : decode cJ3_checkFromToIndex_8c36e 9 = .ok (.iload_n 1, 1) := dkAt dk_J3_checkFromToIndex_8c36e 5 rfl
theorem dj_J3_checkFromToIndex_8c36e_10 : decode cJ3_checkFromToIndex_8c36e 10 = .ok (.iload_n 2, 1) := dkAt dk_J3_checkFromToIndex_8c36e 6 rfl
theorem dj_J3_checkFromToIndex_8c36e_11 : decode cJ3_checkFromToIndex_8c36e 11 = .ok (.if_icmp .le 11, 3) := dkAt dk_J3_checkFromToIndex_8c36e 7 rfl
theorem dj_J3_checkFromToIndex_8c36e_14 : decode cJ3_checkFromToIndex_8c36e 14 = .ok (.aload_n 3, 1) := dkAt dk_J3_checkFromToIndex_8c36e 8 rfl
theorem dj_J3_checkFromToIndex_8c36e_15 : decode cJ3_checkFromToIndex_8c36e 15 = .ok (.iload_n 0, 1) := dkAt dk_J3_checkFromToIndex_8c36e 9 rfl
theorem dj_J3_checkFromToIndex_8c36e_16 : decode cJ3_checkFromToIndex_8c36e 16 = .ok (.iload_n 1, 1) := dkAt dk_J3_checkFromToIndex_8c36e 10 rfl
theorem dj_J3_checkFromToIndex_8c36e_17 : decode cJ3_checkFromToIndex_8c36e 17 = .ok (.iload_n 2, 1) := dkAt dk_J3_checkFromToIndex_8c36e 11 rfl
theorem dj_J3_checkFromToIndex_8c36e_18 : decode cJ3_checkFromToIndex_8c36e 18 = .ok (.invokestatic 99, 3) := dkAt dk_J3_checkFromToIndex_8c36e 12 rfl
theorem dj_J3_checkFromToIndex_8c36e_21 : decode cJ3_checkFromToIndex_8c36e 21 = .ok (.athrow, 1) := dkAt dk_J3_checkFromToIndex_8c36e 13 rfl
theorem dj_J3_checkFromToIndex_8c36e_22 : decode cJ3_checkFromToIndex_8c36e 22 = .ok (.iload_n 0, 1) := dkAt dk_J3_checkFromToIndex_8c36e 14 rfl
theorem dj_J3_checkFromToIndex_8c36e_23 : decode cJ3_checkFromToIndex_8c36e 23 = .ok (.ireturn, 1) := dkAt dk_J3_checkFromToIndex_8c36e 15 rfl
theorem mw_J3_checkFromIndexSize_8c36e : MW yJ3_checkFromIndexSize_8c36e cJ3_checkFromIndexSize_8c36e 4 (some .int) 4 := ⟨gd 57 (by decide +kernel) rfl, gd 630 (by decide +kernel) rfl, ⟨by decide, by decide⟩, by decide +kernel⟩
theorem ms_J3_checkFromIndexSize_8c36e : Gd (.static yJ3_checkFromIndexSize_8c36e) := gd 629 (by decide +kernel) rfl
theorem dj_J3_checkFromIndexSize_8c36e_0 : decode cJ3_checkFromIndexSize_8c36e 0 = .ok (.iload_n 2, 1) := dkAt dk_J3_checkFromIndexSize_8c36e 0 rfl
theorem dj_J3_checkFromIndexSize_8c36e_1 : decode cJ3_checkFromIndexSize_8c36e 1 = .ok (.iload_n 0, 1) := dkAt dk_J3_checkFromIndexSize_8c36e 1 rfl
theorem dj_J3_checkFromIndexSize_8c36e_2 : decode cJ3_checkFromIndexSize_8c36e 2 = .ok (.ior, 1) := dkAt dk_J3_checkFromIndexSize_8c36e 2 rfl
theorem dj_J3_checkFromIndexSize_8c36e_3 : decode cJ3_checkFromIndexSize_8c36e 3 = .ok (.iload_n 1, 1) := dkAt dk_J3_checkFromIndexSize_8c36e 3 rfl
theorem dj_J3_checkFromIndexSize_8c36e_4 : decode cJ3_checkFromIndexSize_8c36e 4 = .ok (.ior, 1) := dkAt dk_J3_checkFromIndexSize_8c36e 4 rfl
theorem dj_J3_checkFromIndexSize_8c36e_5 : decode cJ3_checkFromIndexSize_8c36e 5 = .ok (.ifCond .lt 10, 3) := dkAt dk_J3_checkFromIndexSize_8c36e 5 rfl
theorem dj_J3_checkFromIndexSize_8c36e_8 : decode cJ3_checkFromIndexSize_8c36e 8 = .ok (.iload_n 1, 1) := dkAt dk_J3_checkFromIndexSize_8c36e 6 rfl
theorem dj_J3_checkFromIndexSize_8c36e_9 : decode cJ3_checkFromIndexSize_8c36e 9 = .ok (.iload_n 2, 1) := dkAt dk_J3_checkFromIndexSize_8c36e 7 rfl
theorem dj_J3_checkFromIndexSize_8c36e_10 : decode cJ3_checkFromIndexSize_8c36e 10 = .ok (.iload_n 0, 1) := dkAt dk_J3_checkFromIndexSize_8c36e 8 rfl
theorem dj_J3_checkFromIndexSize_8c36e_11 : decode cJ3_checkFromIndexSize_8c36e 11 = .ok (.isub, 1) := dkAt dk_J3_checkFromIndexSize_8c36e 9 rfl
theorem dj_J3_checkFromIndexSize_8c36e_12 : decode cJ3_checkFromIndexSize_8c36e 12 = .ok (.if_icmp .le 11, 3) := dkAt dk_J3_checkFromIndexSize_8c36e 10 rfl
theorem dj_J3_checkFromIndexSize_8c36e_15 : decode cJ3_checkFromIndexSize_8c36e 15 = .ok (.aload_n 3, 1) := dkAt dk_J3_checkFromIndexSize_8c36e 11 rfl
theorem dj_J3_checkFromIndexSize_8c36e_16 : decode cJ3_checkFromIndexSize_8c36e 16 = .ok (.iload_n 0, 1) := dkAt dk_J3_checkFromIndexSize_8c36e 12 rfl
theorem dj_J3_checkFromIndexSize_8c36e_17 : decode cJ3_checkFromIndexSize_8c36e 17 = .ok (.iload_n 1, 1) := dkAt dk_J3_checkFromIndexSize_8c36e 13 rfl
theorem dj_J3_checkFromIndexSize_8c36e_18 : decode cJ3_checkFromIndexSize_8c36e 18 = .ok (.iload_n 2, 1) := dkAt dk_J3_checkFromIndexSize_8c36e 14 rfl
theorem dj_J3_checkFromIndexSize_8c36e_19 : decode cJ3_checkFromIndexSize_8c36e 19 = .ok (.invokestatic 103, 3) := dkAt dk_J3_checkFromIndexSize_8c36e 15 rfl
theorem dj_J3_checkFromIndexSize_8c36e_22 : decode cJ3_checkFromIndexSize_8c36e 22 = .ok (.athrow, 1) := dkAt dk_J3_checkFromIndexSize_8c36e 16 rfl
theorem dj_J3_checkFromIndexSize_8c36e_23 : decode cJ3_checkFromIndexSize_8c36e 23 = .ok (.iload_n 0, 1) := dkAt dk_J3_checkFromIndexSize_8c36e 17 rfl
theorem dj_J3_checkFromIndexSize_8c36e_24 : decode cJ3_checkFromIndexSize_8c36e 24 = .ok (.ireturn, 1) := dkAt dk_J3_checkFromIndexSize_8c36e 18 rfl
theorem ln_RJ4_7 : Gd (.methodLink RJ4 7 yJ5_init_a7421) := gd 497 (by decide +kernel) rfl
theorem ln_RJ5_3 : Gd (.methodLink RJ5 3 objectInit) := gd 500 (by decide +kernel) rfl
theorem ln_RJ5_32 : Gd (.methodLink RJ5 32 yJ0_length_8abf5) := gd 501 (by decide +kernel) rfl
theorem ln_RJ0_335 : Gd (.methodLink RJ0 335 yJ0_coder_7d493) := gd 505 (by decide +kernel) rfl
theorem ln_RJ5_40 : Gd (.methodLink RJ5 40 yJ0_coder_7d493) := gd 513 (by decide +kernel) rfl
theorem ln_RJ5_26 : Gd (.methodLink RJ5 26 yJ2_newBytesFor_77867) := gd 514 (by decide +kernel) rfl
theorem ln_RJ2_11 : Gd (.methodLink RJ2 11 yJ2_newBytesLength_0f7a4) := gd 517 (by decide +kernel) rfl
theorem ln_RJ5_43 : Gd (.methodLink RJ5 43 yJ5_append_cf1ce) := gd 521 (by decide +kernel) rfl
theorem ln_RJ4_23 : Gd (.methodLink RJ4 23 yJ4_append_15ec4) := gd 527 (by decide +kernel) rfl
theorem ln_RJ4_29 : Gd (.methodLink RJ4 29 yJ5_append_cf1ce) := gd 531 (by decide +kernel) rfl
theorem ln_RJ5_204 : Gd (.methodLink RJ5 204 yJ5_appendNull_278bc) := gd 534 (by decide +kernel) rfl
theorem ln_RJ5_100 : Gd (.methodLink RJ5 100 yJ5_ensureCapacityInternal_d00df) := gd 538 (by decide +kernel) rfl
theorem ln_RJ5_104 : Gd (.methodLink RJ5 104 yJ5_newCapacity_0f7a4) := gd 542 (by decide +kernel) rfl
theorem ln_RJ5_114 : Gd (.methodLink RJ5 114 yJ8_newLength_cabcc) := gd 546 (by decide +kernel) rfl
theorem ln_RJ8_194 : Gd (.methodLink RJ8 194 yJ9_max_7cf53) := gd 549 (by decide +kernel) rfl
theorem ln_RJ8_201 : Gd (.methodLink RJ8 201 yJ8_hugeLength_7cf53) := gd 553 (by decide +kernel) rfl
theorem ln_RJ5_108 : Gd (.methodLink RJ5 108 yJ7_copyOf_9075b) := gd 556 (by decide +kernel) rfl
theorem ln_RJ7_304 : Gd (.methodLink RJ7 304 yJ9_min_7cf53) := gd 566 (by decide +kernel) rfl
theorem ln_RJ7_150 : Gd (.methodLink RJ7 150 arraycopyName) := gd 569 (by decide +kernel) rfl
theorem ln_RJ5_83 : Gd (.methodLink RJ5 83 yJ5_isLatin1_aae02) := gd 572 (by decide +kernel) rfl
theorem ln_RJ5_226 : Gd (.methodLink RJ5 226 yJ2_putCharsAt_cd4e5) := gd 578 (by decide +kernel) rfl
theorem ln_RJ2_96 : Gd (.methodLink RJ2 96 yJ2_checkBoundsBeginEnd_d044e) := gd 581 (by decide +kernel) rfl
theorem ln_RJ2_48 : Gd (.methodLink RJ2 48 yJ2_length_9d52b) := gd 584 (by decide +kernel) rfl
theorem ln_RJ2_241 : Gd (.methodLink RJ2 241 yJ0_checkBoundsBeginEnd_23922) := gd 587 (by decide +kernel) rfl
theorem ln_RJ0_1062 : Gd (.methodLink RJ0 1062 yJ3_checkFromToIndex_8c36e) := gd 592 (by decide +kernel) rfl
theorem ln_RJ2_111 : Gd (.methodLink RJ2 111 yJ2_putChar_b72d1) := gd 595 (by decide +kernel) rfl
theorem ln_RJ5_208 : Gd (.methodLink RJ5 208 yJ5_putStringAt_47b60) := gd 604 (by decide +kernel) rfl
theorem ln_RJ5_397 : Gd (.methodLink RJ5 397 yJ5_inflateIfNeededFor_a7421) := gd 608 (by decide +kernel) rfl
theorem ln_RJ5_195 : Gd (.methodLink RJ5 195 yJ5_inflate_da8c8) := gd 612 (by decide +kernel) rfl
theorem ln_RJ5_125 : Gd (.methodLink RJ5 125 yJ1_inflate_0e8fd) := gd 616 (by decide +kernel) rfl
theorem ln_RJ1_240 : Gd (.methodLink RJ1 240 yJ2_inflate_0e8fd) := gd 619 (by decide +kernel) rfl
theorem ln_RJ2_173 : Gd (.methodLink RJ2 173 yJ2_checkBoundsOffCount_d044e) := gd 622 (by decide +kernel) rfl
theorem ln_RJ2_419 : Gd (.methodLink RJ2 419 yJ0_checkBoundsOffCount_cabcc) := gd 625 (by decide +kernel) rfl
theorem ln_RJ0_1065 : Gd (.methodLink RJ0 1065 yJ3_checkFromIndexSize_8c36e) := gd 628 (by decide +kernel) rfl
theorem ln_RJ5_399 : Gd (.methodLink RJ5 399 yJ0_getBytes_840e7) := gd 631 (by decide +kernel) rfl
theorem ln_RJ0_212 : Gd (.methodLink RJ0 212 arraycopyName) := gd 635 (by decide +kernel) rfl
theorem ln_RJ0_106 : Gd (.methodLink RJ0 106 yJ1_inflate_0e8fd) := gd 636 (by decide +kernel) rfl
theorem ln_RJ4_53 : Gd (.methodLink RJ4 53 yJ5_append_c97b9) := gd 664 (by decide +kernel) rfl
theorem ln_RJ5_245 : Gd (.methodLink RJ5 245 yJ6_stringSize_0f7a4) := gd 667 (by decide +kernel) rfl
theorem ln_RJ5_248 : Gd (.methodLink RJ5 248 yJ6_getChars_ba4f3) := gd 670 (by decide +kernel) rfl
theorem ln_RJ5_251 : Gd (.methodLink RJ5 251 yJ2_getChars_46870) := gd 677 (by decide +kernel) rfl
theorem ln_RJ2_393 : Gd (.methodLink RJ2 393 yJ2_getChars_ba4f3) := gd 680 (by decide +kernel) rfl
theorem ln_RJ4_50 : Gd (.methodLink RJ4 50 yJ5_append_3fe6f) := gd 704 (by decide +kernel) rfl
theorem ln_RJ5_191 : Gd (.methodLink RJ5 191 yJ1_canEncode_fc78d) := gd 707 (by decide +kernel) rfl
theorem ln_RJ5_197 : Gd (.methodLink RJ5 197 yJ2_putCharSB_b72d1) := gd 710 (by decide +kernel) rfl
theorem ln_RJ2_67 : Gd (.methodLink RJ2 67 yJ2_checkIndex_2214a) := gd 713 (by decide +kernel) rfl
theorem ln_RJ2_414 : Gd (.methodLink RJ2 414 yJ0_checkIndex_df160) := gd 716 (by decide +kernel) rfl
theorem ln_RJ0_1059 : Gd (.methodLink RJ0 1059 yJ3_checkIndex_8e157) := gd 719 (by decide +kernel) rfl
theorem ln_RJ0_492 : Gd (.methodLink RJ0 492 yJ0_isLatin1_aae02) := gd 821 (by decide +kernel) rfl
theorem ln_RJ0_495 : Gd (.methodLink RJ0 495 yJ1_charAt_3b067) := gd 825 (by decide +kernel) rfl
theorem ln_RJ1_9 : Gd (.methodLink RJ1 9 yJ0_checkIndex_df160) := gd 828 (by decide +kernel) rfl
theorem ln_RJ0_498 : Gd (.methodLink RJ0 498 yJ2_charAt_3b067) := gd 829 (by decide +kernel) rfl
theorem ln_RJ2_71 : Gd (.methodLink RJ2 71 yJ2_getChar_3b067) := gd 832 (by decide +kernel) rfl
theorem ln_RJ4_137 : Gd (.methodLink RJ4 137 yJ0_init_81219) := gd 1612 (by decide +kernel) rfl
theorem ln_RJ0_489 : Gd (.methodLink RJ0 489 yJ0_init_db425) := gd 1615 (by decide +kernel) rfl
theorem ln_RJ0_1 : Gd (.methodLink RJ0 1 objectInit) := gd 1618 (by decide +kernel) rfl
theorem ln_RJ0_552 : Gd (.methodLink RJ0 552 yJ5_getValue_6d5f1) := gd 1619 (by decide +kernel) rfl
theorem ln_RJ0_549 : Gd (.methodLink RJ0 549 yJ5_length_8abf5) := gd 1624 (by decide +kernel) rfl
theorem ln_RJ4_343 : Gd (.methodLink RJ4 343 yJ5_length_8abf5) := gd 1630 (by decide +kernel) rfl
theorem ln_RJ0_1047 : Gd (.methodLink RJ0 1047 yJ5_isLatin1_aae02) := gd 1632 (by decide +kernel) rfl
theorem ln_RJ0_54 : Gd (.methodLink RJ0 54 yJ7_copyOfRange_39247) := gd 1633 (by decide +kernel) rfl
theorem ln_RJ7_339 : Gd (.methodLink RJ7 339 yJ7_copyOfRangeByte_39247) := gd 1636 (by decide +kernel) rfl
theorem ln_RJ7_343 : Gd (.methodLink RJ7 343 yJ7_checkLength_df160) := gd 1639 (by decide +kernel) rfl
theorem ln_RJ7_47 : Gd (.methodLink RJ7 47 yJ4_init_da8c8) := gd 1644 (by decide +kernel) rfl
theorem ln_RJ4_1 : Gd (.methodLink RJ4 1 yJ5_init_d00df) := gd 1647 (by decide +kernel) rfl
theorem ln_RJ7_54 : Gd (.methodLink RJ7 54 yJ4_append_bf812) := gd 1650 (by decide +kernel) rfl
theorem ln_RJ7_50 : Gd (.methodLink RJ7 50 yJ4_append_15ec4) := gd 1652 (by decide +kernel) rfl
theorem ln_RJ7_61 : Gd (.methodLink RJ7 61 yJ4_toString_0e30d) := gd 1653 (by decide +kernel) rfl
theorem ln_RJ0_1051 : Gd (.methodLink RJ0 1051 yJ2_compress_39247) := gd 1655 (by decide +kernel) rfl
theorem ln_RJ2_123 : Gd (.methodLink RJ2 123 yJ2_compress_5af95) := gd 1658 (by decide +kernel) rfl
theorem ln_RJ2_126 : Gd (.methodLink RJ2 126 yJ7_copyOfRange_39247) := gd 1661 (by decide +kernel) rfl
theorem ln_RJ0_47 : Gd (.methodLink RJ0 47 yJ2_coderFromArrayLen_85cad) := gd 1662 (by decide +kernel) rfl
theorem fl_RJ0_38 : Gd (.fieldLink RJ0 38 "java/lang/String" "COMPACT_STRINGS" "Z") := gd 509 (by decide +kernel) rfl
theorem fl_RJ5_18 : Gd (.fieldLink RJ5 18 "java/lang/String" "COMPACT_STRINGS" "Z") := gd 577 (by decide +kernel) rfl
theorem fl_RJ0_1053 : Gd (.fieldLink RJ0 1053 "jdk/internal/util/Preconditions" "SIOOBE_FORMATTER" "Ljava/util/function/BiFunction;") := gd 590 (by decide +kernel) rfl
theorem fl_RJ2_44 : Gd (.fieldLink RJ2 44 "java/lang/StringUTF16" "$assertionsDisabled" "Z") := gd 598 (by decide +kernel) rfl
theorem fl_RJ2_59 : Gd (.fieldLink RJ2 59 "java/lang/StringUTF16" "HI_BYTE_SHIFT" "I") := gd 600 (by decide +kernel) rfl
theorem fl_RJ2_63 : Gd (.fieldLink RJ2 63 "java/lang/StringUTF16" "LO_BYTE_SHIFT" "I") := gd 602 (by decide +kernel) rfl
theorem fl_RJ5_15 : Gd (.fieldLink RJ5 15 "java/lang/AbstractStringBuilder" "value" "[B") := gd 637 (by decide +kernel) rfl
theorem fl_RJ5_22 : Gd (.fieldLink RJ5 22 "java/lang/AbstractStringBuilder" "coder" "B") := gd 638 (by decide +kernel) rfl
theorem fl_RJ0_1048 : Gd (.fieldLink RJ0 1048 "java/lang/AbstractStringBuilder" "maybeLatin1" "Z") := gd 639 (by decide +kernel) rfl
theorem fl_RJ5_79 : Gd (.fieldLink RJ5 79 "java/lang/AbstractStringBuilder" "count" "I") := gd 640 (by decide +kernel) rfl
theorem fl_RJ6_83 : Gd (.fieldLink RJ6 83 "java/lang/Integer" "DigitOnes" "[B") := gd 673 (by decide +kernel) rfl
theorem fl_RJ6_87 : Gd (.fieldLink RJ6 87 "java/lang/Integer" "DigitTens" "[B") := gd 675 (by decide +kernel) rfl
theorem fl_RJ2_403 : Gd (.fieldLink RJ2 403 "java/lang/Integer" "DigitOnes" "[B") := gd 683 (by decide +kernel) rfl
theorem fl_RJ2_407 : Gd (.fieldLink RJ2 407 "java/lang/Integer" "DigitTens" "[B") := gd 684 (by decide +kernel) rfl
theorem fl_RJ0_9 : Gd (.fieldLink RJ0 9 "java/lang/String" "value" "[B") := gd 1665 (by decide +kernel) rfl
theorem fl_RJ0_15 : Gd (.fieldLink RJ0 15 "java/lang/String" "coder" "B") := gd 1666 (by decide +kernel) rfl
theorem ll_maxI : Gd (.static Lib.Math.max.name) ∧ Gd (.initialized "java/lang/Math") ∧ Gd (.code Lib.Math.max.name Lib.Math.max.code 2 (some .int)) := ⟨gd 550 (by decide +kernel) rfl, gd 54 (by decide +kernel) rfl, gd 551 (by decide +kernel) rfl⟩
theorem ll_minI : Gd (.static Lib.Math.min.name) ∧ Gd (.initialized "java/lang/Math") ∧ Gd (.code Lib.Math.min.name Lib.Math.min.code 2 (some .int)) := ⟨gd 567 (by decide +kernel) rfl, gd 54 (by decide +kernel) rfl, gd 568 (by decide +kernel) rfl⟩
theorem ll_maxL : Gd (.static Lib.MathLoose.max_long.x) ∧ Gd (.initialized "java/lang/Math") ∧ Gd (.code Lib.MathLoose.max_long.x Lib.MathLoose.max_long.code 4 (some .long)) := ⟨gd 1253 (by decide +kernel) rfl, gd 54 (by decide +kernel) rfl, gd 1254 (by decide +kernel) rfl⟩
theorem ll_absI : Gd (.static Lib.Math.abs.name) ∧ Gd (.initialized "java/lang/Math") ∧ Gd (.code Lib.Math.abs.name Lib.Math.abs.code 1 (some .int)) := ⟨gd 697 (by decide +kernel) rfl, gd 54 (by decide +kernel) rfl, gd 698 (by decide +kernel) rfl⟩
theorem ll_copy : Gd (.native arraycopyName) ∧ Gd (.static arraycopyName) ∧ Gd (.initialized "java/lang/System") := ⟨gd 571 (by decide +kernel) rfl, gd 570 (by decide +kernel) rfl, gd 56 (by decide +kernel) rfl⟩
end
section
section Thr2
variable {Γ : WC} {X : MX} {M M1 : Mem} {cs sl mc ms : Nat} {L : List (Option Value)} {st : List Value} {pc : Nat} {cc : ByteArray} {nL : Nat} {own : String} {ret : Option FieldType} {R0 : Room} {β : Type}
/-- 'throw new E("text")' -/
theorem t_throwW {α : Type} {tv : α → Option Value} {rM : Except Nat α × Mem} {n9 : Nat} (C : CX Γ X cc nL own ret R0) (E : EndT Γ X tv rM mc ms) {text : String} {ik is ic sa : Nat} (hf : some (.error n9, M) = some rM) (hc : cs + 1 ≤ mc) (hs : sl + 6 ≤ ms) (hR : 6 ≤ R0.frames ∧ 90 ≤ R0.locals ∧ mc ≤ R0.cells ∧ ms ≤ R0.slots) (hw : (st.map fun v => v.category).sum ≤ 8)
    (hcls : Bundle.fit (xN n9) = true) (hk : Gd (.classLink own ik (xN n9))) (hini : Gd (.initialized (xN n9))) (hstr : vk_R own is text sa (wU Γ)) (hat : ∀ w ∈ vx_atS own ic (xN n9) ["java/lang/RuntimeException", "java/lang/Exception"], Gd w) (hgd : ∀ w ∈ Cond.classLink own ik (xN n9) :: Cond.initialized (xN n9) :: vx_atS own ic (xN n9) ["java/lang/RuntimeException", "java/lang/Exception"], vx_ot w = true)
    (d0 : decode cc pc = .ok (.new ik, 3)) (d3 : decode cc (pc + 3) = .ok (.dup, 1)) (d4 : decode cc (pc + 4) = .ok (.ldc_w is, 3)) (d6 : decode cc (pc + 7) = .ok (.invokespecial ic, 3)) (d9 : decode cc (pc + 10) = .ok (.athrow, 1)) : G Γ X M cs sl L st pc := by
  obtain ⟨p, e, R, s, m, args, below, meth, c, Q⟩ := X
  obtain ⟨hx, hb, hml, hown, hts, hW, hlk, hret, rfl, hK, hSs, hG⟩ := C
  cases hf
  intro H locs ls a1 a2 a3 a4 a5
  rw [show Q = _ from E.1]
  have hno := E.2
  intro T hT X9
  have hsz : s.heap.size ≤ H.size := by
    have h2 := X9.same.2.1
    rw [← hT]
    exact h2
  have hS9 : va_S (fAg Γ) s.heap H locs := ⟨hsz, fun q h1 h2 => by
    have hq : q < (wU Γ).heap.size := Nat.lt_of_not_le h2
    rw [a4.2.1 q hq h2, hSs.2.1 q hq h2], a4.2.2⟩
  have hU := (hG.2.2.2.1.kept hSs.2.1).moved hW.alike
  have hN := (hG.2.2.2.2.1.kept hSs.2.1).moved hW.alike
  exact vx_throwSW hx hb hG.2.2.1 hown hcls (by decide) (hts _ hk) (hts _ hini) (vk_R.warm hW hstr) (fun w h => hts w (hat w h)) hgd hU hN hS9 (by rw [a5.1]) d0 d3 d4 d6 d9 (fun x h => absurd (hno x h) id) (by show 2 + 3 < _; omega) (by show _ + (13 * (2 + 1) + 43) ≤ _; omega) (by omega) (by omega) hlk
    (fun t hv h1 h2 => ⟨_, rfl, rfl, a1, ⟨Nat.le_trans a4.1 h1, fun q h3 h4 => by rw [h2 q (Nat.lt_of_lt_of_le h3 a4.1)]; exact a4.2.1 q h3 h4, fun _ z => nomatch z⟩, a2.kept (fun k q hk => h2 q.1 (a2 k q hk).lt), a3⟩) a4.2.2 hc hs T hT X9
end Thr2
/-! the JDK's text methods over the parser's words -/
theorem ss9 {Γ : WC} {p : Program} {l : Launch} {e : Env} {R : Room} {s : State} {m : MethodId} {args : Array Value} {below : List Frame} {meth : Method} {c : Code} {T : State} {H : Heap} {locs : List Loc} {cs sl : Nat} (X9 : Stand p l e R s m args below meth c T locs cs sl) (hT : T.heap = H) (a4 : va_S (fAg Γ) (wU Γ).heap H locs) (hSs : va_S (fAg Γ) (wU Γ).heap s.heap []) : va_S (fAg Γ) s.heap H locs := by
  have hsz : s.heap.size ≤ H.size := by
    have h2 := X9.same.2.1
    rw [← hT]
    exact h2
  exact ⟨hsz, fun q h1 h2 => by
    have hq : q < (wU Γ).heap.size := Nat.lt_of_not_le h2
    rw [a4.2.1 q hq h2, hSs.2.1 q hq h2], a4.2.2⟩
theorem strAt {Γ : WC} (hN : HT Γ) {s : State} (hW : (wU Γ).WarmedH s.vm) (hSs : va_S (fAg Γ) (wU Γ).heap s.heap []) : vk_S 21 (WL.map List.length) (WL.map (fun l => l.map nI)) (wst Γ) (wsv Γ) (fAg Γ) s s.heap := (hN.2.2.1.kept hSs.2.1).moved hW.alike
theorem wl_len : ∀ t, t < 21 → (WL.map List.length).getD t 0 = (WL.getD t []).length ∧ (WL.getD t []).length < 1000 := by decide
theorem wl_at : ∀ t, t < 21 → ∀ j, j < (WL.getD t []).length → ((WL.map (fun l => l.map nI)).getD t []).getD j 0 = nI ((WL.getD t []).getD j 0) ∧ (WL.getD t []).getD j 0 < 128 := by decide +kernel
theorem ch_i2c : ∀ c, c < 128 → ((nI c &&& 255).toUInt32 % 65536).toInt32 = nI c ∧ narrow .char (.int (nI c)) = .int (nI c) := by decide +kernel
theorem mi_recv {Γ : WC} (hN : HT Γ) {t : Nat} (ht : t < 21) {s : State} {H : Heap} {locs : List Loc} (hW : (wU Γ).WarmedH s.vm) (hSs : va_S (fAg Γ) (wU Γ).heap s.heap []) (hS : va_S (fAg Γ) (wU Γ).heap H locs) : ∃ cell : Cell, H[wst Γ t]? = some cell ∧ cell.vm.isStatics = false ∧ s.vm.findClass "java/lang/String" = some cell.cls := by
  have h0 : va_O "java/lang/String" (wst Γ t) (fAg Γ) (wU Γ) (wU Γ).heap := (hN.2.2.1.1 t ht).1
  obtain ⟨cell, h1, h2, h3, h4⟩ := (h0.kept hS.2.1).moved hW.alike
  exact ⟨cell, h1, h2, h3⟩
section Str
variable {Γ : WC} {X : MX} {M : Mem} {cs sl mc ms : Nat} {L : List (Option Value)} {st : List Value} {pc : Nat} {cc : ByteArray} {nL : Nat} {own : String} {ret : Option FieldType} {R0 : Room} {β : Type} {rM : β} {idx : Nat}
theorem x_gfV (C : CX Γ X cc nL own ret R0) (hN : HT Γ) {t : Nat} (ht : t < 21) (lk : Gd (.fieldLink own idx "java/lang/String" "value" "[B")) (d : decode cc pc = .ok (.getfield idx, 3)) (q : Nat) (hq : pc + 3 = q) (K : G Γ X M cs sl L (.ref (wsv Γ t) :: st) q) : G Γ X M cs sl L (.ref (wst Γ t) :: st) pc := by
  subst hq
  obtain ⟨p, e, R, s, m, args, below, meth, c, Q⟩ := X
  obtain ⟨hx, hb, hml, hown, hts, hW, hlk, hret, rfl, hK, hSs, hG⟩ := C
  intro H locs ls a1 a2 a3 a4 a5 T hT X9
  exact vk_getf hx hb ((strAt hN hW hSs).1 t ht).2.2.1 (ss9 X9 hT a4 hSs) hown (hts _ lk) (fun _ h => h) d (K H locs ls a1 a2 a3 a4 a5) T hT X9
theorem x_gfC (C : CX Γ X cc nL own ret R0) (hN : HT Γ) {t : Nat} (ht : t < 21) (lk : Gd (.fieldLink own idx "java/lang/String" "coder" "B")) (d : decode cc pc = .ok (.getfield idx, 3)) (q : Nat) (hq : pc + 3 = q) (K : G Γ X M cs sl L (.int 0 :: st) q) : G Γ X M cs sl L (.ref (wst Γ t) :: st) pc := by
  subst hq
  obtain ⟨p, e, R, s, m, args, below, meth, c, Q⟩ := X
  obtain ⟨hx, hb, hml, hown, hts, hW, hlk, hret, rfl, hK, hSs, hG⟩ := C
  intro H locs ls a1 a2 a3 a4 a5 T hT X9
  exact vk_getf hx hb ((strAt hN hW hSs).1 t ht).2.1 (ss9 X9 hT a4 hSs) hown (hts _ lk) (fun _ h => h) d (K H locs ls a1 a2 a3 a4 a5) T hT X9
theorem x_gsC (C : CX Γ X cc nL own ret R0) (hN : HT Γ) (lk : Gd (.fieldLink own idx "java/lang/String" "COMPACT_STRINGS" "Z")) (d : decode cc pc = .ok (.getstatic idx, 3)) (q : Nat) (hq : pc + 3 = q) (K : G Γ X M cs sl L (.int 1 :: st) q) : G Γ X M cs sl L st pc := by
  subst hq
  obtain ⟨p, e, R, s, m, args, below, meth, c, Q⟩ := X
  obtain ⟨hx, hb, hml, hown, hts, hW, hlk, hret, rfl, hK, hSs, hG⟩ := C
  intro H locs ls a1 a2 a3 a4 a5 T hT X9
  exact va_gets hx hb ((hN.2.2.2.1.kept hSs.2.1).moved hW.alike) (ss9 X9 hT a4 hSs) hown (hts _ lk) (fun _ h => h) d (K H locs ls a1 a2 a3 a4 a5) T hT X9
theorem x_gsF (C : CX Γ X cc nL own ret R0) (hN : HT Γ) (lk : Gd (.fieldLink own idx "jdk/internal/util/Preconditions" "SIOOBE_FORMATTER" "Ljava/util/function/BiFunction;")) (d : decode cc pc = .ok (.getstatic idx, 3)) (q : Nat) (hq : pc + 3 = q) (K : ∀ v : Value, v.category = 1 → G Γ X M cs sl L (v :: st) q) : G Γ X M cs sl L st pc := by
  subst hq
  obtain ⟨p, e, R, s, m, args, below, meth, c, Q⟩ := X
  obtain ⟨hx, hb, hml, hown, hts, hW, hlk, hret, rfl, hK, hSs, hG⟩ := C
  intro H locs ls a1 a2 a3 a4 a5 T hT X9
  rcases (hN.2.2.2.2.kept hSs.2.1).moved hW.alike with hz | ⟨t9, hz⟩
  · exact va_gets hx hb hz (ss9 X9 hT a4 hSs) hown (hts _ lk) (fun _ h => h) d (K _ rfl H locs ls a1 a2 a3 a4 a5) T hT X9
  · exact va_gets hx hb hz (ss9 X9 hT a4 hSs) hown (hts _ lk) (fun _ h => h) d (K _ rfl H locs ls a1 a2 a3 a4 a5) T hT X9
theorem x_sal (C : CX Γ X cc nL own ret R0) (hN : HT Γ) {t : Nat} (ht : t < 21) (d : decode cc pc = .ok (.arraylength, 1)) (q : Nat) (hq : pc + 1 = q) (K : G Γ X M cs sl L (.int (slen t) :: st) q) : G Γ X M cs sl L (.ref (wsv Γ t) :: st) pc := by
  subst hq
  obtain ⟨p, e, R, s, m, args, below, meth, c, Q⟩ := X
  obtain ⟨hx, hb, hml, hown, hts, hW, hlk, hret, rfl, hK, hSs, hG⟩ := C
  intro H locs ls a1 a2 a3 a4 a5 T hT X9
  exact va_tlen hx hb ((strAt hN hW hSs).1 t ht).2.2.2 (ss9 X9 hT a4 hSs) (by rw [(wl_len t ht).1]; rfl) d (K H locs ls a1 a2 a3 a4 a5) T hT X9
theorem x_sbal (C : CX Γ X cc nL own ret R0) (hN : HT Γ) {t : Nat} {i : Int32} (ht : t < 21) (hi : inB i (WL.getD t []).length = true) (d : decode cc pc = .ok (.baload, 1)) (q : Nat) (hq : pc + 1 = q) (K : G Γ X M cs sl L (.int (nI ((WL.getD t []).getD i.toNatClampNeg 0)) :: st) q) : G Γ X M cs sl L (.int i :: .ref (wsv Γ t) :: st) pc := by
  subst hq
  obtain ⟨p, e, R, s, m, args, below, meth, c, Q⟩ := X
  obtain ⟨hx, hb, hml, hown, hts, hW, hlk, hret, rfl, hK, hSs, hG⟩ := C
  intro H locs ls a1 a2 a3 a4 a5 T hT X9
  have hj : i.toNatClampNeg < (WL.getD t []).length := by
    simp only [inB, Bool.and_eq_true, decide_eq_true_eq] at hi
    exact hi.2
  have hv := (wl_at t ht _ hj).1
  exact va_tb hx hb ((strAt hN hW hSs).1 t ht).2.2.2 (ss9 X9 hT a4 hSs) (by rw [(wl_len t ht).1]; exact inB_in hi) (by rw [hv]) d (K H locs ls a1 a2 a3 a4 a5) T hT X9
theorem x_nret {rM : Int32 × Mem} {x : Int32} {ty : FieldType} (C : CX Γ X cc nL own (some ty) R0) (E : EndN Γ X (some (.int x)) M mc ms) (hz : narrow ty (.int x) = .int x) (hc : cs ≤ mc) (hs : sl ≤ ms) (d : decode cc pc = .ok (.ireturn, 1)) : G Γ X M cs sl L [.int x] pc := by
  obtain ⟨p, e, R, s, m, args, below, meth, c, Q⟩ := X
  obtain ⟨hx, hb, hml, hown, hts, hW, hlk, hret, hR, hK, hSs, hG⟩ := C
  intro H locs ls a1 a2 a3 a4 a5
  refine W.widen hc hs ?_
  rw [show Q = _ from E]
  exact W.zret hx hb hret hz (fun t ht hW1 => ⟨rfl, a1, State.WarmedH.trans hW hW1, by rw [ht]; exact S_nil a4, by rw [ht]; exact a2, a3⟩) a4.2.2 d hlk
theorem x_i2c (C : CX Γ X cc nL own ret R0) {x : Int32} (d : decode cc pc = .ok (.i2c, 1)) (q : Nat) (hq : pc + 1 = q) (k : G Γ X M cs sl L (.int (x.toUInt32 % 65536).toInt32 :: st) q) : G Γ X M cs sl L (.int x :: st) pc := by
  subst hq
  obtain ⟨p, e, R, s, m, args, below, meth, c, Q⟩ := X
  obtain ⟨hx, hb, hml, hown, hts, hW, hlk, hret, hR, hK, hSs, hG⟩ := C
  intro H locs ls a1 a2 a3 a4 a5
  exact lv_i2c hx hb d rfl (k H locs ls a1 a2 a3 a4 a5)
theorem x_ifF_eq (C : CX Γ X cc nL own ret R0) {x : Int32} {off : Int} (h : ¬ x = 0) (d : decode cc pc = .ok (.ifCond .eq off, 3)) (tgt : Nat) (ht : (pc : Int) + off = (tgt : Int)) (q : Nat) (hq : pc + 3 = q) (k : G Γ X M cs sl L st q) : G Γ X M cs sl L (.int x :: st) pc := x_if_eq (β := Unit) (rM := ()) (a := none) (b := some ()) C tgt d q hq ht (if_neg h) (fun z => nomatch z) (fun _ => k)
theorem x_ifF_ne (C : CX Γ X cc nL own ret R0) {x : Int32} {off : Int} (h : x = 0) (d : decode cc pc = .ok (.ifCond .ne off, 3)) (tgt : Nat) (ht : (pc : Int) + off = (tgt : Int)) (q : Nat) (hq : pc + 3 = q) (k : G Γ X M cs sl L st q) : G Γ X M cs sl L (.int x :: st) pc := x_if_ne (β := Unit) (rM := ()) (a := none) (b := some ()) C tgt d q hq ht (if_pos h) (fun z => nomatch z) (fun _ => k)
theorem x_ifF_lt (C : CX Γ X cc nL own ret R0) {x : Int32} {off : Int} (h : ¬ x < 0) (d : decode cc pc = .ok (.ifCond .lt off, 3)) (tgt : Nat) (ht : (pc : Int) + off = (tgt : Int)) (q : Nat) (hq : pc + 3 = q) (k : G Γ X M cs sl L st q) : G Γ X M cs sl L (.int x :: st) pc := x_if_lt (β := Unit) (rM := ()) (a := none) (b := some ()) C tgt d q hq ht (if_neg h) (fun z => nomatch z) (fun _ => k)
theorem x_icT_lt (C : CX Γ X cc nL own ret R0) {x y : Int32} {off : Int} (h : x < y) (d : decode cc pc = .ok (.if_icmp .lt off, 3)) (tgt : Nat) (ht : (pc : Int) + off = (tgt : Int)) (k : G Γ X M cs sl L st tgt) : G Γ X M cs sl L (.int y :: .int x :: st) pc := x_icmp_lt (β := Unit) (rM := ()) (a := some ()) (b := none) C tgt d (pc + 3) rfl ht (if_pos h) (fun _ => k) (fun z => nomatch z)
end Str
theorem c_J0_coder_7d493 {Γ : WC} (hN : HT Γ) {M : Mem} {t : Nat} (ht : t < 21) : Ct Γ yJ0_coder_7d493 cJ0_coder_7d493 1 (some .byte) (rmL 0 0 0) [.ref (wst Γ t)] M (some (.int 0)) M := by
  refine mkN hN.1 (own := RJ0) rfl (by decide) (Nat.le_of_ble_eq_true rfl) (fun X C E => ?_)
  change G Γ X M 0 0 [some (.ref (wst Γ t))] [] 0
  refine x_gsC C hN fl_RJ0_38 dj_J0_coder_7d493_0 3 rfl ?_
  refine x_ifF_eq C (by decide) dj_J0_coder_7d493_3 13 (by decide) 6 rfl ?_
  refine x_aload_n C rfl rfl dj_J0_coder_7d493_6 7 rfl ?_
  refine x_gfC C hN ht fl_RJ0_15 dj_J0_coder_7d493_7 10 rfl ?_
  refine x_goto C 14 dj_J0_coder_7d493_10 (by decide) ?_
  exact x_nret (rM := (0, M)) C E rfl (Nat.le_refl _) (Nat.le_refl _) dj_J0_coder_7d493_14
theorem c_J0_isLatin1_aae02 {Γ : WC} (hN : HT Γ) {M : Mem} {t : Nat} (ht : t < 21) : Ct Γ yJ0_isLatin1_aae02 cJ0_isLatin1_aae02 1 (some .boolean) (rmL 0 0 0) [.ref (wst Γ t)] M (some (.int 1)) M := by
  refine mkN hN.1 (own := RJ0) rfl (by decide) (Nat.le_of_ble_eq_true rfl) (fun X C E => ?_)
  change G Γ X M 0 0 [some (.ref (wst Γ t))] [] 0
  refine x_gsC C hN fl_RJ0_38 dj_J0_isLatin1_aae02_0 3 rfl ?_
  refine x_ifF_eq C (by decide) dj_J0_isLatin1_aae02_3 17 (by decide) 6 rfl ?_
  refine x_aload_n C rfl rfl dj_J0_isLatin1_aae02_6 7 rfl ?_
  refine x_gfC C hN ht fl_RJ0_15 dj_J0_isLatin1_aae02_7 10 rfl ?_
  refine x_ifF_ne C rfl dj_J0_isLatin1_aae02_10 17 (by decide) 13 rfl ?_
  refine x_iconst C (v := 1) (by decide) dj_J0_isLatin1_aae02_13 14 rfl ?_
  refine x_goto C 18 dj_J0_isLatin1_aae02_14 (by decide) ?_
  exact x_nret (rM := (0, M)) C E rfl (Nat.le_refl _) (Nat.le_refl _) dj_J0_isLatin1_aae02_18
theorem x_cStr {Γ : WC} {X : MX} {M M1 : Mem} {cs sl : Nat} {L : List (Option Value)} {st stk As : List Value} {pc idx n maxL t : Nat} {cc bytes : ByteArray} {nL : Nat} {own : String} {ret rt : Option FieldType} {R0 rm : Room} {y : MethodName} {v : Option Value} (C : CX Γ X cc nL own ret R0) (hN : HT Γ) (ht : t < 21) (hM : Ct Γ y bytes maxL rt rm (.ref (wst Γ t) :: As) M v M1) (mw : MW y bytes maxL rt n) (ln : Gd (.methodLink own idx y)) (mi : Gd (.instanceMethod y) ∧ Gd (.selects y.cls y y)) (hy : y.cls = "java/lang/String") (hr : RO rm R0 maxL cs sl) (hn : As.length = n) (hst : stk = As.reverse ++ .ref (wst Γ t) :: st) (hw : (st.map fun v => v.category).sum ≤ 8) (d : decode cc pc = .ok (.invokevirtual idx, 3)) (q : Nat) (hq : pc + 3 = q) (cs1 sl1 : Nat) (ec : cs + rm.cells = cs1) (es : sl + rm.slots = sl1) (K : G Γ X M1 cs1 sl1 L (v.toList ++ st) q) : G Γ X M cs sl L stk pc := by
  obtain ⟨p, e, R, s, m, args, below, meth, c, Q⟩ := X
  obtain ⟨hx, hb, hml, hown, hts, hW, hlk, hret, rfl, hK, hSs, hG⟩ := C
  subst hst; subst hml; subst hq; subst ec; subst es
  intro H locs ls a1 a2 a3 a4 a5
  exact callN (va_runV (Ts := []) (own := own) ⟨hx, hb, rfl, hown, fun _ h => nomatch h⟩ hM ⟨cw_B hW hts hG mw hr ln, hts _ mi.1, hts _ mi.2⟩ ⟨WP.blind, by rw [hy]; exact mi_recv hN ht hW hSs a4, fun U hU hU2 => ⟨rfl, a1, State.WarmedH.trans hW hU2, by rw [hU]; exact S_nil a4, by rw [hU]; exact a2, a3⟩⟩ rfl hn a5.1 rfl (lv_room hw) d ⟨hr.2.2.1, hr.2.2.2⟩) a4 (fun H1 locs1 b1 b2 b3 b4 => K H1 locs1 ls b1 b2 b3 b4 a5)
theorem c_J0_length_8abf5 {Γ : WC} (hN : HT Γ) {M : Mem} {t : Nat} (ht : t < 21) : Ct Γ yJ0_length_8abf5 cJ0_length_8abf5 1 (some .int) (rmL 1 0 0) [.ref (wst Γ t)] M (some (.int (slen t))) M := by
  refine mkN hN.1 (own := RJ0) rfl (by decide) (Nat.le_of_ble_eq_true rfl) (fun X C E => ?_)
  change G Γ X M 0 0 [some (.ref (wst Γ t))] [] 0
  refine x_aload_n C rfl rfl dj_J0_length_8abf5_0 1 rfl ?_
  refine x_gfV C hN ht fl_RJ0_9 dj_J0_length_8abf5_1 4 rfl ?_
  refine x_sal C hN ht dj_J0_length_8abf5_4 5 rfl ?_
  refine x_aload_n C rfl rfl dj_J0_length_8abf5_5 6 rfl ?_
  refine x_cStr C hN ht (c_J0_coder_7d493 hN ht) mw_J0_coder_7d493 ln_RJ0_335 mi_J0_coder_7d493 rfl (ro_of (by decide) (by decide) (by decide) (by decide)) rfl rfl (Nat.le_of_ble_eq_true rfl) dj_J0_length_8abf5_6 9 rfl 0 0 rfl rfl ?_
  show G Γ X M 0 0 _ (.int 0 :: .int (slen t) :: []) 9
  refine x_ishr C dj_J0_length_8abf5_9 10 rfl ?_
  rw [show slen t >>> ((0 : Int32) &&& 31) = slen t from sc_shr0 (Nat.lt_trans (wl_len t ht).2 (by decide))]
  exact x_nret (rM := (0, M)) C E rfl (Nat.le_refl _) (Nat.le_refl _) dj_J0_length_8abf5_10
theorem c_J3_checkIndex_8e157 {Γ : WC} (hN : HT Γ) {M : Mem} {i n : Int32} {v : Value} (hv : v.category = 1) (h0 : ¬ i < 0) (h1 : i < n) : Ct Γ yJ3_checkIndex_8e157 cJ3_checkIndex_8e157 3 (some .int) (rmL 0 0 0) [.int i, .int n, v] M (some (.int i)) M := by
  have hv2 : ¬ v.category = 2 := by omega
  refine mkN hN.1 (own := RJ3) rfl (by decide) (by simp only [lg_sl, List.flatMap_cons, List.flatMap_nil, if_neg hv2]; exact Nat.le_of_ble_eq_true rfl) (fun X C E => ?_)
  rw [show lE [Value.int i, Value.int n, v] = [some (.int i), some (.int n), some v] by simp only [lE, if_neg hv2]; rfl]
  refine x_iload_n C rfl rfl dj_J3_checkIndex_8e157_0 1 rfl ?_
  refine x_ifF_lt C h0 dj_J3_checkIndex_8e157_1 9 (by decide) 4 rfl ?_
  refine x_iload_n C rfl rfl dj_J3_checkIndex_8e157_4 5 rfl ?_
  refine x_iload_n C rfl rfl dj_J3_checkIndex_8e157_5 6 rfl ?_
  refine x_icT_lt C h1 dj_J3_checkIndex_8e157_6 16 (by decide) ?_
  refine x_iload_n C rfl rfl dj_J3_checkIndex_8e157_16 17 rfl ?_
  exact x_nret (rM := (0, M)) C E rfl (Nat.le_refl _) (Nat.le_refl _) dj_J3_checkIndex_8e157_17
theorem c_J0_checkIndex_df160 {Γ : WC} (hN : HT Γ) {M : Mem} {i n : Int32} (h0 : ¬ i < 0) (h1 : i < n) : Ct Γ yJ0_checkIndex_df160 cJ0_checkIndex_df160 2 none (rmL 1 0 0) [.int i, .int n] M none M := by
  refine mkN hN.1 (own := RJ0) rfl (by decide) (Nat.le_of_ble_eq_true rfl) (fun X C E => ?_)
  change G Γ X M 0 0 [some (.int i), some (.int n)] [] 0
  refine x_iload_n C rfl rfl dj_J0_checkIndex_df160_0 1 rfl ?_
  refine x_iload_n C rfl rfl dj_J0_checkIndex_df160_1 2 rfl ?_
  refine x_gsF C hN fl_RJ0_1053 dj_J0_checkIndex_df160_2 5 rfl (fun v hv => ?_)
  refine x_cSi C (c_J3_checkIndex_8e157 hN hv h0 h1) mw_J3_checkIndex_8e157 ln_RJ0_1059 ms_J3_checkIndex_8e157 (ro_of (by decide) (by decide) (by decide) (by decide)) rfl rfl (Nat.le_of_ble_eq_true rfl) dj_J0_checkIndex_df160_5 8 rfl 0 0 rfl rfl ?_
  refine x_pop C rfl dj_J0_checkIndex_df160_8 9 rfl ?_
  exact x_vret (rM := ((), M)) C E rfl (Nat.le_refl _) (Nat.le_refl _) dj_J0_checkIndex_df160_9
theorem c_J1_charAt_3b067 {Γ : WC} (hN : HT Γ) {M : Mem} {t : Nat} {i : Int32} (ht : t < 21) (hi : inB i (WL.getD t []).length = true) : Ct Γ yJ1_charAt_3b067 cJ1_charAt_3b067 2 (some .char) (rmL 2 0 0) [.ref (wsv Γ t), .int i] M (some (.int (nI ((WL.getD t []).getD i.toNatClampNeg 0)))) M := by
  refine mkN hN.1 (own := RJ1) rfl (by decide) (Nat.le_of_ble_eq_true rfl) (fun X C E => ?_)
  change G Γ X M 0 0 [some (.ref (wsv Γ t)), some (.int i)] [] 0
  have hi2 := hi
  simp only [inB, Bool.and_eq_true, decide_eq_true_eq] at hi2
  have hl := (wl_len t ht).2
  have h0 : ¬ i < 0 := Int32.not_lt.mpr hi2.1
  obtain ⟨j, hj, rfl⟩ := nI_of h0
  have hjl : j < (WL.getD t []).length := by rw [nI_clamp hj] at hi2; exact hi2.2
  have h1 : nI j < slen t := nI_lt hjl (by omega)
  refine x_iload_n C rfl rfl dj_J1_charAt_3b067_0 1 rfl ?_
  refine x_aload_n C rfl rfl dj_J1_charAt_3b067_1 2 rfl ?_
  refine x_sal C hN ht dj_J1_charAt_3b067_2 3 rfl ?_
  refine x_cSv C (c_J0_checkIndex_df160 hN h0 h1) mw_J0_checkIndex_df160 ln_RJ1_9 ms_J0_checkIndex_df160 (ro_of (by decide) (by decide) (by decide) (by decide)) rfl rfl (Nat.le_of_ble_eq_true rfl) dj_J1_charAt_3b067_3 6 rfl 0 0 rfl rfl ?_
  refine x_aload_n C rfl rfl dj_J1_charAt_3b067_6 7 rfl ?_
  refine x_iload_n C rfl rfl dj_J1_charAt_3b067_7 8 rfl ?_
  refine x_sbal C hN ht hi dj_J1_charAt_3b067_8 9 rfl ?_
  refine x_sipush C (v := 255) (by decide) dj_J1_charAt_3b067_9 12 rfl ?_
  refine x_iand C dj_J1_charAt_3b067_12 13 rfl ?_
  refine x_i2c C dj_J1_charAt_3b067_13 14 rfl ?_
  have hc := ch_i2c _ (wl_at t ht (nI j).toNatClampNeg (by rw [nI_clamp hj]; exact hjl)).2
  rw [hc.1]
  exact x_nret (rM := (0, M)) C E hc.2 (Nat.le_refl _) (Nat.le_refl _) dj_J1_charAt_3b067_14
theorem c_J0_charAt_5068e {Γ : WC} (hN : HT Γ) {M : Mem} {t : Nat} {i : Int32} (ht : t < 21) (hi : inB i (WL.getD t []).length = true) : Ct Γ yJ0_charAt_5068e cJ0_charAt_5068e 2 (some .char) (rmL 3 0 0) [.ref (wst Γ t), .int i] M (some (.int (nI ((WL.getD t []).getD i.toNatClampNeg 0)))) M := by
  refine mkN hN.1 (own := RJ0) rfl (by decide) (Nat.le_of_ble_eq_true rfl) (fun X C E => ?_)
  change G Γ X M 0 0 [some (.ref (wst Γ t)), some (.int i)] [] 0
  refine x_aload_n C rfl rfl dj_J0_charAt_5068e_0 1 rfl ?_
  refine x_cStr C hN ht (c_J0_isLatin1_aae02 hN ht) mw_J0_isLatin1_aae02 ln_RJ0_492 mi_J0_isLatin1_aae02 rfl (ro_of (by decide) (by decide) (by decide) (by decide)) rfl rfl (Nat.le_of_ble_eq_true rfl) dj_J0_charAt_5068e_1 4 rfl 0 0 rfl rfl ?_
  show G Γ X M 0 0 _ (.int 1 :: []) 4
  refine x_ifF_eq C (by decide) dj_J0_charAt_5068e_4 16 (by decide) 7 rfl ?_
  refine x_aload_n C rfl rfl dj_J0_charAt_5068e_7 8 rfl ?_
  refine x_gfV C hN ht fl_RJ0_9 dj_J0_charAt_5068e_8 11 rfl ?_
  refine x_iload_n C rfl rfl dj_J0_charAt_5068e_11 12 rfl ?_
  refine x_cSi C (c_J1_charAt_3b067 hN ht hi) mw_J1_charAt_3b067 ln_RJ0_495 ms_J1_charAt_3b067 (ro_of (by decide) (by decide) (by decide) (by decide)) rfl rfl (Nat.le_of_ble_eq_true rfl) dj_J0_charAt_5068e_12 15 rfl 0 0 rfl rfl ?_
  have hj : i.toNatClampNeg < (WL.getD t []).length := by simp only [inB, Bool.and_eq_true, decide_eq_true_eq] at hi; exact hi.2
  exact x_nret (rM := (0, M)) C E (ch_i2c _ (wl_at t ht _ hj).2).2 (Nat.le_refl _) (Nat.le_refl _) dj_J0_charAt_5068e_15
section Lib1
variable {Γ : WC} {X : MX} {M : Mem} {cs sl : Nat} {L : List (Option Value)} {st : List Value} {pc : Nat} {cc : ByteArray} {nL : Nat} {own : String} {ret : Option FieldType} {R0 : Room} {β : Type} {rM : β} {idx : Nat}
theorem x_maxI (C : CX Γ X cc nL own ret R0) {x y : Int32} {k : Int32 → Option β} (ln : Gd (.methodLink own idx yJ9_max_7cf53)) (hr : 2 ≤ R0.frames ∧ 60 ≤ R0.locals ∧ cs ≤ R0.cells ∧ sl ≤ R0.slots) (hw : (st.map fun v => v.category).sum ≤ 8) (d : decode cc pc = .ok (.invokestatic idx, 3)) (q : Nat) (hq : pc + 3 = q) (hf : bd (if x < y then y else x) k = some rM) (K : ∀ v, k v = some rM → G Γ X M cs sl L (.int v :: st) q) : G Γ X M cs sl L (.int y :: .int x :: st) pc := by
  subst hq
  obtain ⟨p, e, R, s, m, args, below, meth, c, Q⟩ := X
  obtain ⟨hx, hb, hml, hown, hts, hW, hlk, hret, rfl, hK, hSs, hG⟩ := C
  intro H locs ls a1 a2 a3 a4 a5
  exact va_mmax hx hb a5.1.symm hown (hts _ ln) (hts _ ll_maxI.1) (hts _ ll_maxI.2.1) (hts _ ll_maxI.2.2) (by omega) (by omega) hr.2.2.1 hr.2.2.2 d (K _ hf H locs ls a1 a2 a3 a4 a5)
theorem x_minI (C : CX Γ X cc nL own ret R0) {x y : Int32} {k : Int32 → Option β} (ln : Gd (.methodLink own idx yJ9_min_7cf53)) (hr : 2 ≤ R0.frames ∧ 60 ≤ R0.locals ∧ cs ≤ R0.cells ∧ sl ≤ R0.slots) (hw : (st.map fun v => v.category).sum ≤ 8) (d : decode cc pc = .ok (.invokestatic idx, 3)) (q : Nat) (hq : pc + 3 = q) (hf : bd (if y < x then y else x) k = some rM) (K : ∀ v, k v = some rM → G Γ X M cs sl L (.int v :: st) q) : G Γ X M cs sl L (.int y :: .int x :: st) pc := by
  subst hq
  obtain ⟨p, e, R, s, m, args, below, meth, c, Q⟩ := X
  obtain ⟨hx, hb, hml, hown, hts, hW, hlk, hret, rfl, hK, hSs, hG⟩ := C
  intro H locs ls a1 a2 a3 a4 a5
  exact va_mmin hx hb a5.1.symm hown (hts _ ln) (hts _ ll_minI.1) (hts _ ll_minI.2.1) (hts _ ll_minI.2.2) (by omega) (by omega) hr.2.2.1 hr.2.2.2 d (K _ hf H locs ls a1 a2 a3 a4 a5)
theorem x_maxL (C : CX Γ X cc nL own ret R0) {x y : Int64} {k : Int64 → Option β} (ln : Gd (.methodLink own idx yJ9_max_f86c9)) (hr : 2 ≤ R0.frames ∧ 60 ≤ R0.locals ∧ cs ≤ R0.cells ∧ sl ≤ R0.slots) (hw : (st.map fun v => v.category).sum ≤ 8) (d : decode cc pc = .ok (.invokestatic idx, 3)) (q : Nat) (hq : pc + 3 = q) (hf : bd (if y < x then x else y) k = some rM) (K : ∀ v, k v = some rM → G Γ X M cs sl L (.long v :: st) q) : G Γ X M cs sl L (.long y :: .long x :: st) pc := by
  subst hq
  obtain ⟨p, e, R, s, m, args, below, meth, c, Q⟩ := X
  obtain ⟨hx, hb, hml, hown, hts, hW, hlk, hret, rfl, hK, hSs, hG⟩ := C
  intro H locs ls a1 a2 a3 a4 a5
  exact va_mmax_long hx hb a5.1.symm hown (hts _ ln) (hts _ ll_maxL.1) (hts _ ll_maxL.2.1) (hts _ ll_maxL.2.2) (by omega) (by omega) hr.2.2.1 hr.2.2.2 d (K _ hf H locs ls a1 a2 a3 a4 a5)
theorem x_fdivK (C : CX Γ X cc nL own ret R0) {x y : UInt32} {a : Option β} (d : decode cc pc = .ok (.fdiv, 1)) (q : Nat) (hq : pc + 1 = q) (hf : okF (FP.fdiv x y) a = some rM) (K : a = some rM → G Γ X M cs sl L (.float (FP.fdiv x y) :: st) q) : G Γ X M cs sl L (.float y :: .float x :: st) pc := by
  obtain ⟨h1, h2⟩ := if_some hf
  exact x_fdiv C h1 d q hq (K h2)
theorem x_slen (C : CX Γ X cc nL own ret R0) (hN : HT Γ) {t : Nat} (ht : t < 21) (ln : Gd (.methodLink own idx yJ0_length_8abf5)) (hr : 5 ≤ R0.frames ∧ 200 ≤ R0.locals ∧ cs ≤ R0.cells ∧ sl ≤ R0.slots) (hw : (st.map fun v => v.category).sum ≤ 8) (d : decode cc pc = .ok (.invokevirtual idx, 3)) (q : Nat) (hq : pc + 3 = q) (K : G Γ X M cs sl L (.int (slen t) :: st) q) : G Γ X M cs sl L (.ref (wst Γ t) :: st) pc := by
  have hR9 : RO (rmL 1 0 0) R0 1 cs sl := ⟨by show 1 + 1 + 1 ≤ _; omega, by show 8 + (1 + 11) + 44 * 2 ≤ _; omega, by show cs + 0 ≤ _; omega, by show sl + 0 ≤ _; omega⟩
  exact x_cStr C hN ht (c_J0_length_8abf5 hN ht) mw_J0_length_8abf5 ln mi_J0_length_8abf5 rfl hR9 rfl rfl hw d q hq cs sl rfl rfl K
theorem x_charAt (C : CX Γ X cc nL own ret R0) (hN : HT Γ) {t : Nat} {i : Int32} {k : Int32 → Option β} (ht : t < 21) (ln : Gd (.methodLink own idx yJ0_charAt_5068e)) (hr : 7 ≤ R0.frames ∧ 260 ≤ R0.locals ∧ cs ≤ R0.cells ∧ sl ≤ R0.slots) (hw : (st.map fun v => v.category).sum ≤ 8) (d : decode cc pc = .ok (.invokevirtual idx, 3)) (q : Nat) (hq : pc + 3 = q) (hf : rdS t i k = some rM) (K : ∀ v, k v = some rM → G Γ X M cs sl L (.int v :: st) q) : G Γ X M cs sl L (.int i :: .ref (wst Γ t) :: st) pc := by
  obtain ⟨hi, hf⟩ := if_some hf
  have hR9 : RO (rmL 3 0 0) R0 2 cs sl := ⟨by show 3 + 1 + 1 ≤ _; omega, by show 8 + (2 + 11) + 44 * 4 ≤ _; omega, by show cs + 0 ≤ _; omega, by show sl + 0 ≤ _; omega⟩
  exact x_cStr C hN ht (c_J0_charAt_5068e hN ht hi) mw_J0_charAt_5068e ln mi_J0_charAt_5068e rfl hR9 rfl rfl hw d q hq cs sl rfl rfl (K _ hf)
theorem cE_sC {dA : Nat → ClassId} {ad : Nat → Nat} {M : Mem} {x s b d n : Nat} {a : Nat} (h : a ≠ b) (e : SE) : cE dA ad (sC M x s b d n) a e = cE dA ad M a e := by
  have h1f : gI (sC M x s b d n) a = gI M a := funext fun k => if_neg h
  have h2f : gL (sC M x s b d n) a = gL M a := rfl
  have h3f : gR (sC M x s b d n) a = gR M a := rfl
  have h4 : ∀ j q, fVal ad (sC M x s b d n) a j q = fVal ad M a j q := fun j q => by simp only [fVal, h1f, h2f, h3f]
  simp only [cE, vlen, fsO, h1f, h2f, h3f, h4]
theorem x_copy (C : CX Γ X cc nL own ret R0) {a na b nb : Nat} {sp dp n : Int32} {k : Mem → Option β} (ha : On Γ a (0, na)) (hb9 : On Γ b (0, nb)) (ln : Gd (.methodLink own idx arraycopyName)) (hr : 2 ≤ R0.frames ∧ 60 ≤ R0.locals ∧ cs ≤ R0.cells ∧ sl ≤ R0.slots) (hw : (st.map fun v => v.category).sum ≤ 8) (d : decode cc pc = .ok (.invokestatic idx, 3)) (q : Nat) (hq : pc + 3 = q) (hf : cpI M a na sp b nb dp n k = some rM) (K : ∀ M1, k M1 = some rM → G Γ X M1 cs sl L st q) : G Γ X M cs sl L (.int n :: .int dp :: .ref (wad Γ b) :: .int sp :: .ref (wad Γ a) :: st) pc := by
  subst hq
  obtain ⟨p, e, R, s, m, args, below, meth, c, Q⟩ := X
  obtain ⟨hx, hb, hml, hown, hts, hW, hlk, hret, rfl, hK, hSs, hG⟩ := C
  intro H locs ls a1 a2 a3 a4 a5
  obtain ⟨⟨z1, z2, z3, z4, z5⟩, hf⟩ := if_some hf
  refine va_copyi hx hb a5.1.symm hown (hts _ ln) (hts _ ll_copy.1) (hts _ ll_copy.2.1) (hts _ ll_copy.2.2) hK a2 a3 a4 (px Γ a) (px Γ b) 0 0 (wO_at ha) (wO_at hb9) rfl rfl rfl z1 z2 z3 z4 z5 (fun _ _ => rfl) (by omega) (by simp [nativeFrameWords]; omega) d (fun H1 locs1 hP1 hD1 hS1 => ?_)
  have e1 : (wO Γ M).set (px Γ b) (wad Γ b, cE (wA Γ) (wad Γ) (sC M a sp.toNatClampNeg b dp.toNatClampNeg n.toNatClampNeg) b (0, nb)) = wO Γ (sC M a sp.toNatClampNeg b dp.toNatClampNeg n.toNatClampNeg) := wO_set hb9 (fun x hx q => cE_sC hx q)
  have e2 : (gI (sC M a sp.toNatClampNeg b dp.toNatClampNeg n.toNatClampNeg) b) = va_cpy (gI M a) (gI M b) sp.toNatClampNeg dp.toNatClampNeg n.toNatClampNeg := funext fun j => if_pos rfl
  have e3 : cE (wA Γ) (wad Γ) (sC M a sp.toNatClampNeg b dp.toNatClampNeg n.toNatClampNeg) b (0, nb) = (Sum.inl (wA Γ 0, nb, Sum.inl (va_cpy (gI M a) (gI M b) sp.toNatClampNeg dp.toNatClampNeg n.toNatClampNeg)) : va_E) := by
    rw [← e2]; rfl
  rw [← e3, e1] at hP1 hD1
  exact K _ hf H1 locs1 ls (hG.kw M _ (fun _ _ => rfl) a1) hP1 hD1 hS1 a5
theorem x_ldcS (C : CX Γ X cc nL own ret R0) {t : Nat} {tx : String} (hs : vk_R own idx tx (wst Γ t) (wU Γ)) (d : decode cc pc = .ok (.ldc idx, 2)) (q : Nat) (hq : pc + 2 = q) (K : G Γ X M cs sl L (.ref (wst Γ t) :: st) q) : G Γ X M cs sl L st pc := by
  subst hq
  obtain ⟨p, e, R, s, m, args, below, meth, c, Q⟩ := X
  obtain ⟨hx, hb, hml, hown, hts, hW, hlk, hret, hR, hK, hSs, hG⟩ := C
  intro H locs ls a1 a2 a3 a4 a5
  exact va_ldcS hx hb hown (vk_R.warm hW hs) d (K H locs ls a1 a2 a3 a4 a5)
end Lib1
end
