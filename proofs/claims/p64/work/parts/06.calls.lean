/-! ends of a walk, calls, throws -/
theorem mw_len {y : MethodName} {bytes : ByteArray} {maxL : Nat} {rt : Option FieldType} {n : Nat} (h : MW y bytes maxL rt n) : ∀ sig, parseMethodDescriptor y.desc = some sig → n = sig.parameters.length := by
  intro sig hs
  have h2 := h.2.2.2
  rw [hs] at h2
  exact (Option.some.inj h2).symm
/-- room that a call asks of its caller -/
def RO (rm R0 : Room) (maxL cs sl : Nat) : Prop := rm.frames + 1 ≤ R0.frames ∧ 8 + (maxL + 11) + rm.locals ≤ R0.locals ∧ cs + rm.cells ≤ R0.cells ∧ sl + rm.slots ≤ R0.slots
theorem ro_of {n n' mc ms mc' ms' maxL cs sl : Nat} (h : n' + 1 ≤ n) (hm : maxL ≤ 24) (hc : cs + mc' ≤ mc) (hs : sl + ms' ≤ ms) : RO (rmL n' mc' ms') (rmL n mc ms) maxL cs sl := by
  refine ⟨?_, ?_, hc, hs⟩
  · show n' + 1 + 1 ≤ n + 1
    omega
  · show 8 + (maxL + 11) + 44 * (n' + 1) ≤ 44 * (n + 1)
    omega
section Ends
variable {Γ : WC} {X : MX} {M M1 : Mem} {cs sl mc ms : Nat} {L : List (Option Value)} {st : List Value} {pc : Nat} {cc : ByteArray} {nL : Nat} {own : String} {ret : Option FieldType} {R0 : Room} {β : Type}
theorem S_nil {A : Nat → Prop} {H0 H : Heap} {locs : List Loc} (h : va_S A H0 H locs) : va_S A H0 H [] := ⟨h.1, h.2.1, fun _ z => nomatch z⟩
theorem x_iret {rM : Int32 × Mem} {x : Int32} (C : CX Γ X cc nL own (some .int) R0) (E : EndN Γ X (some (.int rM.1)) rM.2 mc ms) (hf : some (x, M) = some rM) (hc : cs ≤ mc) (hs : sl ≤ ms) (d : decode cc pc = .ok (.ireturn, 1)) : G Γ X M cs sl L [.int x] pc := by
  obtain ⟨p, e, R, s, m, args, below, meth, c, Q⟩ := X
  obtain ⟨hx, hb, hml, hown, hts, hW, hlk, hret, hR, hK, hSs, hG⟩ := C
  cases hf
  intro H locs ls a1 a2 a3 a4 a5
  refine W.widen hc hs ?_
  rw [show Q = _ from E]
  exact W.iret hx hb hret (fun t ht hW1 => ⟨rfl, a1, State.WarmedH.trans hW hW1, by rw [ht]; exact S_nil a4, by rw [ht]; exact a2, a3⟩) a4.2.2 d hlk
theorem x_zret {rM : Int32 × Mem} {x : Int32} (C : CX Γ X cc nL own (some .boolean) R0) (E : EndN Γ X (some (.int rM.1)) rM.2 mc ms) (hz : x &&& 1 = x) (hf : some (x, M) = some rM) (hc : cs ≤ mc) (hs : sl ≤ ms) (d : decode cc pc = .ok (.ireturn, 1)) : G Γ X M cs sl L [.int x] pc := by
  obtain ⟨p, e, R, s, m, args, below, meth, c, Q⟩ := X
  obtain ⟨hx, hb, hml, hown, hts, hW, hlk, hret, hR, hK, hSs, hG⟩ := C
  cases hf
  intro H locs ls a1 a2 a3 a4 a5
  refine W.widen hc hs ?_
  rw [show Q = _ from E]
  exact W.zret hx hb hret (by simp only [narrow, hz]) (fun t ht hW1 => ⟨rfl, a1, State.WarmedH.trans hW hW1, by rw [ht]; exact S_nil a4, by rw [ht]; exact a2, a3⟩) a4.2.2 d hlk
theorem x_lret {rM : Int64 × Mem} {x : Int64} (C : CX Γ X cc nL own (some .long) R0) (E : EndN Γ X (some (.long rM.1)) rM.2 mc ms) (hf : some (x, M) = some rM) (hc : cs ≤ mc) (hs : sl ≤ ms) (d : decode cc pc = .ok (.lreturn, 1)) : G Γ X M cs sl L [.long x] pc := by
  obtain ⟨p, e, R, s, m, args, below, meth, c, Q⟩ := X
  obtain ⟨hx, hb, hml, hown, hts, hW, hlk, hret, hR, hK, hSs, hG⟩ := C
  cases hf
  intro H locs ls a1 a2 a3 a4 a5
  refine W.widen hc hs ?_
  rw [show Q = _ from E]
  exact W.lret hx hb hret (fun t ht hW1 => ⟨rfl, a1, State.WarmedH.trans hW hW1, by rw [ht]; exact S_nil a4, by rw [ht]; exact a2, a3⟩) a4.2.2 d hlk
theorem x_fret {rM : UInt32 × Mem} {x : UInt32} (C : CX Γ X cc nL own (some .float) R0) (E : EndN Γ X (some (.float rM.1)) rM.2 mc ms) (hf : some (x, M) = some rM) (hc : cs ≤ mc) (hs : sl ≤ ms) (d : decode cc pc = .ok (.freturn, 1)) : G Γ X M cs sl L [.float x] pc := by
  obtain ⟨p, e, R, s, m, args, below, meth, c, Q⟩ := X
  obtain ⟨hx, hb, hml, hown, hts, hW, hlk, hret, hR, hK, hSs, hG⟩ := C
  cases hf
  intro H locs ls a1 a2 a3 a4 a5
  refine W.widen hc hs ?_
  rw [show Q = _ from E]
  exact W.fret hx hb hret (fun t ht hW1 => ⟨rfl, a1, State.WarmedH.trans hW hW1, by rw [ht]; exact S_nil a4, by rw [ht]; exact a2, a3⟩) a4.2.2 d hlk
theorem x_vret {rM : Unit × Mem} (C : CX Γ X cc nL own none R0) (E : EndN Γ X none rM.2 mc ms) (hf : some ((), M) = some rM) (hc : cs ≤ mc) (hs : sl ≤ ms) (d : decode cc pc = .ok (.return_, 1)) : G Γ X M cs sl L [] pc := by
  obtain ⟨p, e, R, s, m, args, below, meth, c, Q⟩ := X
  obtain ⟨hx, hb, hml, hown, hts, hW, hlk, hret, hR, hK, hSs, hG⟩ := C
  cases hf
  intro H locs ls a1 a2 a3 a4 a5
  refine W.widen hc hs ?_
  rw [show Q = _ from E]
  exact W.vret hx hb hret (fun t ht hW1 => ⟨rfl, a1, State.WarmedH.trans hW hW1, by rw [ht]; exact S_nil a4, by rw [ht]; exact a2, a3⟩) a4.2.2 d hlk
/-- ends of a method that may throw -/
theorem t_iret {rM : Except Nat Int32 × Mem} {x : Int32} (C : CX Γ X cc nL own (some .int) R0) (E : EndT Γ X (fun v => some (.int v)) rM mc ms) (hf : some (.ok x, M) = some rM) (hc : cs ≤ mc) (hs : sl ≤ ms) (d : decode cc pc = .ok (.ireturn, 1)) : G Γ X M cs sl L [.int x] pc := by
  obtain ⟨p, e, R, s, m, args, below, meth, c, Q⟩ := X
  obtain ⟨hx, hb, hml, hown, hts, hW, hlk, hret, hR, hK, hSs, hG⟩ := C
  cases hf
  intro H locs ls a1 a2 a3 a4 a5
  refine W.widen hc hs ?_
  rw [show Q = _ from E.1]
  exact vx_ret (W.iret hx hb hret (fun t ht hW1 => ⟨_, rfl, rfl, a1, State.WarmedH.trans hW hW1, by rw [ht]; exact S_nil a4, by rw [ht]; exact a2, a3⟩) a4.2.2 d hlk)
theorem t_zret {rM : Except Nat Int32 × Mem} {x : Int32} (C : CX Γ X cc nL own (some .boolean) R0) (E : EndT Γ X (fun v => some (.int v)) rM mc ms) (hz : x &&& 1 = x) (hf : some (.ok x, M) = some rM) (hc : cs ≤ mc) (hs : sl ≤ ms) (d : decode cc pc = .ok (.ireturn, 1)) : G Γ X M cs sl L [.int x] pc := by
  obtain ⟨p, e, R, s, m, args, below, meth, c, Q⟩ := X
  obtain ⟨hx, hb, hml, hown, hts, hW, hlk, hret, hR, hK, hSs, hG⟩ := C
  cases hf
  intro H locs ls a1 a2 a3 a4 a5
  refine W.widen hc hs ?_
  rw [show Q = _ from E.1]
  exact vx_ret (W.zret hx hb hret (by simp only [narrow, hz]) (fun t ht hW1 => ⟨_, rfl, rfl, a1, State.WarmedH.trans hW hW1, by rw [ht]; exact S_nil a4, by rw [ht]; exact a2, a3⟩) a4.2.2 d hlk)
theorem t_lret {rM : Except Nat Int64 × Mem} {x : Int64} (C : CX Γ X cc nL own (some .long) R0) (E : EndT Γ X (fun v => some (.long v)) rM mc ms) (hf : some (.ok x, M) = some rM) (hc : cs ≤ mc) (hs : sl ≤ ms) (d : decode cc pc = .ok (.lreturn, 1)) : G Γ X M cs sl L [.long x] pc := by
  obtain ⟨p, e, R, s, m, args, below, meth, c, Q⟩ := X
  obtain ⟨hx, hb, hml, hown, hts, hW, hlk, hret, hR, hK, hSs, hG⟩ := C
  cases hf
  intro H locs ls a1 a2 a3 a4 a5
  refine W.widen hc hs ?_
  rw [show Q = _ from E.1]
  exact vx_ret (W.lret hx hb hret (fun t ht hW1 => ⟨_, rfl, rfl, a1, State.WarmedH.trans hW hW1, by rw [ht]; exact S_nil a4, by rw [ht]; exact a2, a3⟩) a4.2.2 d hlk)
theorem t_fret {rM : Except Nat UInt32 × Mem} {x : UInt32} (C : CX Γ X cc nL own (some .float) R0) (E : EndT Γ X (fun v => some (.float v)) rM mc ms) (hf : some (.ok x, M) = some rM) (hc : cs ≤ mc) (hs : sl ≤ ms) (d : decode cc pc = .ok (.freturn, 1)) : G Γ X M cs sl L [.float x] pc := by
  obtain ⟨p, e, R, s, m, args, below, meth, c, Q⟩ := X
  obtain ⟨hx, hb, hml, hown, hts, hW, hlk, hret, hR, hK, hSs, hG⟩ := C
  cases hf
  intro H locs ls a1 a2 a3 a4 a5
  refine W.widen hc hs ?_
  rw [show Q = _ from E.1]
  exact vx_ret (W.fret hx hb hret (fun t ht hW1 => ⟨_, rfl, rfl, a1, State.WarmedH.trans hW hW1, by rw [ht]; exact S_nil a4, by rw [ht]; exact a2, a3⟩) a4.2.2 d hlk)
theorem t_vret {rM : Except Nat Unit × Mem} (C : CX Γ X cc nL own none R0) (E : EndT Γ X (fun _ => none) rM mc ms) (hf : some (.ok (), M) = some rM) (hc : cs ≤ mc) (hs : sl ≤ ms) (d : decode cc pc = .ok (.return_, 1)) : G Γ X M cs sl L [] pc := by
  obtain ⟨p, e, R, s, m, args, below, meth, c, Q⟩ := X
  obtain ⟨hx, hb, hml, hown, hts, hW, hlk, hret, hR, hK, hSs, hG⟩ := C
  cases hf
  intro H locs ls a1 a2 a3 a4 a5
  refine W.widen hc hs ?_
  rw [show Q = _ from E.1]
  exact vx_ret (W.vret hx hb hret (fun t ht hW1 => ⟨_, rfl, rfl, a1, State.WarmedH.trans hW hW1, by rw [ht]; exact S_nil a4, by rw [ht]; exact a2, a3⟩) a4.2.2 d hlk)
/-- 'throw new E("text")' -/
theorem t_throw {α : Type} {tv : α → Option Value} {rM : Except Nat α × Mem} {n9 : Nat} (C : CX Γ X cc nL own ret R0) (E : EndT Γ X tv rM mc ms) {text : String} {ik is ic sa : Nat} (hf : some (.error n9, M) = some rM) (hc : cs + 1 ≤ mc) (hs : sl + 6 ≤ ms) (hR : 6 ≤ R0.frames ∧ 90 ≤ R0.locals ∧ mc ≤ R0.cells ∧ ms ≤ R0.slots) (hw : (st.map fun v => v.category).sum ≤ 8)
    (hcls : Bundle.fit (xN n9) = true) (hk : Gd (.classLink own ik (xN n9))) (hini : Gd (.initialized (xN n9))) (hstr : vk_R own is text sa (wU Γ)) (hat : ∀ w ∈ vx_atS own ic (xN n9) ["java/lang/RuntimeException", "java/lang/Exception"], Gd w) (hgd : ∀ w ∈ Cond.classLink own ik (xN n9) :: Cond.initialized (xN n9) :: vx_atS own ic (xN n9) ["java/lang/RuntimeException", "java/lang/Exception"], vx_ot w = true)
    (d0 : decode cc pc = .ok (.new ik, 3)) (d3 : decode cc (pc + 3) = .ok (.dup, 1)) (d4 : decode cc (pc + 4) = .ok (.ldc is, 2)) (d6 : decode cc (pc + 6) = .ok (.invokespecial ic, 3)) (d9 : decode cc (pc + 9) = .ok (.athrow, 1)) : G Γ X M cs sl L st pc := by
  obtain ⟨p, e, R, s, m, args, below, meth, c, Q⟩ := X
  obtain ⟨hx, hb, hml, hown, hts, hW, hlk, hret, rfl, hK, hSs, hG⟩ := C
  cases hf
  intro H locs ls a1 a2 a3 a4 a5
  rw [show Q = _ from E.1]
  have hno := E.2
  intro T hT X9
  have hsz : s.heap.size ≤ H.size := by
    have h2 := X9.same.2.1
    rw [← hT]
    exact h2
  have hS9 : va_S (fAg Γ) s.heap H locs := ⟨hsz, fun q h1 h2 => by
    have hq : q < (wU Γ).heap.size := Nat.lt_of_not_le h2
    rw [a4.2.1 q hq h2, hSs.2.1 q hq h2], a4.2.2⟩
  have hU := (hG.2.2.2.1.kept hSs.2.1).moved hW.alike
  have hN := (hG.2.2.2.2.1.kept hSs.2.1).moved hW.alike
  exact vx_throwS hx hb hG.2.2.1 hown hcls (by decide) (hts _ hk) (hts _ hini) (vk_R.warm hW hstr) (fun w h => hts w (hat w h)) hgd hU hN hS9 (by rw [a5.1]) d0 d3 d4 d6 d9 (fun x h => absurd (hno x h) id) (by show 2 + 3 < _; omega) (by show _ + (13 * (2 + 1) + 43) ≤ _; omega) (by omega) (by omega) hlk
    (fun t hv h1 h2 => ⟨_, rfl, rfl, a1, ⟨Nat.le_trans a4.1 h1, fun q h3 h4 => by rw [h2 q (Nat.lt_of_lt_of_le h3 a4.1)]; exact a4.2.1 q h3 h4, fun _ z => nomatch z⟩, a2.kept (fun k q hk => h2 q.1 (a2 k q hk).lt), a3⟩) a4.2.2 hc hs T hT X9
end Ends

section Calls
variable {Γ : WC} {X : MX} {M M1 : Mem} {cs sl : Nat} {L : List (Option Value)} {st : List Value} {pc : Nat} {cc : ByteArray} {nL : Nat} {own : String} {ret : Option FieldType} {R0 : Room}
/-- behind a call that returned -/
theorem callN {p : Program} {l : Launch} {e : Env} {R : Room} {s : State} {m : MethodId} {args : Array Value} {below : List Frame} {meth : Method} {c : Code} {H : Heap} {locs : List Loc} {mc ms : Nat} {Q : State → Prop} {ls : Array Slot} {st0 rest : List Value} {v : Option Value}
    (hr : va_Run p l e R s m args below meth c H locs cs sl mc ms (F0 m pc ls st0) rest (fun _ o t => o = .returned v ∧ WP Γ M1 t) (fAg Γ)) (hS : va_S (fAg Γ) (wU Γ).heap H locs)
    (kk : ∀ (H1 : Heap) (locs1 : List Loc), wK Γ M1 → va_P (wD Γ) vwCl (wO Γ M1) H1 → va_D (fAg Γ) (wO Γ M1) → va_S (fAg Γ) (wU Γ).heap H1 locs1 → W p l e R s m args below meth c H1 locs1 (cs + mc) (sl + ms) Q (F0 m (pc + 3) ls (v.toList ++ rest))) : W p l e R s m args below meth c H locs cs sl Q (F0 m pc ls st0) := by
  intro T hT X
  obtain ⟨v', st₀, t, T', L, h0, X', hL, e1, e2, ⟨hv, hK, hW, hS1, hP1, hD1⟩, st⟩ := hr T hT X
  cases hv
  obtain ⟨t2, a1, b1⟩ := kk T'.heap (locs ++ L) hK (by rw [e1]; exact hP1) hD1 ⟨by rw [e1]; exact hS1.1, fun q h1 h2 => by rw [e1]; exact hS1.2.1 q h1 h2, fun q hq => (List.mem_append.mp hq).elim (hS.2.2 q) (hL q)⟩ T' rfl X'
  exact ⟨t2, st t2 a1, b1⟩
/-- a frame over which an exception of class xN n goes -/
def GX (Γ : WC) (X : MX) (M : Mem) (cs sl : Nat) (L : List (Option Value)) (st : List Value) (pc n : Nat) : Prop := match X with
  | (p, e, R, s, m, args, below, meth, c, Q) => ∀ (H : Heap) (locs : List Loc) (ls : Array Slot) (q : Addr) (ce : Cell), wK Γ M → va_P (wD Γ) vwCl (wO Γ M) H → va_D (fAg Γ) (wO Γ M) → va_S (fAg Γ) (wU Γ).heap H locs → lv_has ls c.maxLocals (lO 0 L) → H[q]? = some ce → ce.vm = .none → s.vm.findClass (xN n) = some ce.cls → vx_W p (wl Γ) e R s m args below meth c H locs cs sl Q (F0 m pc ls st) q
theorem callX {α : Type} {tv : α → Option Value} {r : Except Nat α × Mem} {p : Program} {l : Launch} {e : Env} {R : Room} {s : State} {m : MethodId} {args : Array Value} {below : List Frame} {meth : Method} {c : Code} {H : Heap} {locs : List Loc} {mc ms : Nat} {Q : State → Prop} {ls : Array Slot} {st0 rest : List Value}
    {a0 : Array Value} (hr : vx_Run p l e R s m args below meth c H locs cs sl mc ms (F0 m pc ls st0) rest (QcT Γ tv r a0) (XcT Γ r) (fAg Γ)) (hS : va_S (fAg Γ) (wU Γ).heap H locs) (hWs : (wU Γ).WarmedH s.vm)
    (kk : ∀ (v : α) (H1 : Heap) (locs1 : List Loc), r.1 = .ok v → wK Γ r.2 → va_P (wD Γ) vwCl (wO Γ r.2) H1 → va_D (fAg Γ) (wO Γ r.2) → va_S (fAg Γ) (wU Γ).heap H1 locs1 → W p l e R s m args below meth c H1 locs1 (cs + mc) (sl + ms) Q (F0 m (pc + 3) ls ((tv v).toList ++ rest)))
    (kx : ∀ (n : Nat) (H1 : Heap) (locs1 : List Loc) (q : Addr) (ce : Cell), r.1 = .error n → wK Γ r.2 → va_P (wD Γ) vwCl (wO Γ r.2) H1 → va_D (fAg Γ) (wO Γ r.2) → va_S (fAg Γ) (wU Γ).heap H1 locs1 → H1[q]? = some ce → ce.vm = .none → s.vm.findClass (xN n) = some ce.cls → vx_W p l e R s m args below meth c H1 locs1 (cs + mc) (sl + ms) Q (F0 m pc ls rest) q) : W p l e R s m args below meth c H locs cs sl Q (F0 m pc ls st0) := by
  intro T hT X
  rcases hr T hT X with ⟨v', st₀, t, T', L, h0, X', hL, e1, e2, ⟨x, hx, hv, hK, hW, hS1, hP1, hD1⟩, st⟩ | ⟨q, st₀, t, T', L, E, ce, h0, X', hL, e1, e2, ⟨n, hx, rfl, hK, hS1, hP1, hD1⟩, hce, hcv, hcl, st⟩
  · cases hv
    obtain ⟨t2, a1, b1⟩ := kk x T'.heap (locs ++ L) hx hK (by rw [e1]; exact hP1) hD1 ⟨by rw [e1]; exact hS1.1, fun q h1 h2 => by rw [e1]; exact hS1.2.1 q h1 h2, fun q hq => (List.mem_append.mp hq).elim (hS.2.2 q) (hL q)⟩ T' rfl X'
    exact ⟨t2, st t2 a1, b1⟩
  · obtain ⟨t2, a1, b1⟩ := kx n T'.heap (locs ++ L) q ce hx hK (by rw [e1]; exact hP1) hD1 ⟨by rw [e1]; exact hS1.1, fun q h1 h2 => by rw [e1]; exact hS1.2.1 q h1 h2, fun q hq => (List.mem_append.mp hq).elim (hS.2.2 q) (hL q)⟩ (by rw [e1]; exact hce) hcv hcl T' rfl X'
    exact ⟨t2, st.trans a1, b1⟩
end Calls
section Calls2
variable {Γ : WC} {X : MX} {M M1 : Mem} {cs sl mcX msX : Nat} {L : List (Option Value)} {st stk As : List Value} {pc idx n o ci nn maxL : Nat} {cc bytes : ByteArray} {nL : Nat} {own host : String} {ret rt : Option FieldType} {R0 rm : Room} {y : MethodName} {b : Addr}
def pr {α : Type} (n : Nat) (m : Mem) : Option (Except Nat α × Mem) := some (.error n, m)
/-- the class of a receiver -/
def RC (Γ : WC) (o : Nat) (c : String) : Prop := ∃ ci nn q, On Γ o (ci + 6, nn) ∧ vwCl[ci]? = some q ∧ q.1 = c
theorem RC.recv {Γ : WC} {o : Nat} {c : String} (h : RC Γ o c) {s : State} {H : Heap} {M : Mem} (hK : va_K (wD Γ) vwCl (tysA (wA Γ)) s) (hP : va_P (wD Γ) vwCl (wO Γ M) H) : ∃ cell : Cell, H[wad Γ o]? = some cell ∧ cell.vm.isStatics = false ∧ s.vm.findClass c = some cell.cls := by
  obtain ⟨ci, nn, q, h1, h2, rfl⟩ := h
  exact va_recv hK hP h2 (wO_at h1)
theorem cw_B {s9 : State} {args9 : Array Value} (hW : (wU Γ).WarmedH s9.vm) (hts : ∀ w, Gd w → w.before args9 s9 = true) (hG : HG Γ) (mw : MW y bytes maxL rt n) (hr : RO rm R0 maxL cs sl) (ln : Gd (.methodLink own idx y)) : CallB R0 s9 args9 own idx y bytes maxL rt [Cond.code y bytes maxL rt] rm rm.cells rm.slots n :=
  ⟨rfl, rfl, hr.1, hr.2.1, fun w hw a U hU => by
    rw [List.mem_singleton.mp hw]
    exact hG.1 _ mw.2.1 _ _ (State.WarmedH.trans hW hU), List.mem_singleton.mpr rfl, hts _ mw.2.1, hts _ mw.1, mw.2.2.1, mw_len mw, hts _ ln⟩
theorem cw_N {s9 : State} {args9 : Array Value} (hW : (wU Γ).WarmedH s9.vm) (hts : ∀ w, Gd w → w.before args9 s9 = true) (hG : HG Γ) (mw : MW y bytes maxL rt n) (hr : RO rm R0 maxL cs sl) (ln : Gd (.methodLinkNest own idx y host)) : va_CN R0 s9 args9 own idx y host bytes maxL rt [Cond.code y bytes maxL rt] rm rm.cells rm.slots n :=
  ⟨⟨rfl, rfl, hr.1, hr.2.1, fun w hw a U hU => by
    rw [List.mem_singleton.mp hw]
    exact hG.1 _ mw.2.1 _ _ (State.WarmedH.trans hW hU), List.mem_singleton.mpr rfl⟩, hts _ mw.2.1, hts _ mw.1, mw.2.2.1, mw_len mw, hts _ ln⟩
theorem x_cV {v : Option Value} (C : CX Γ X cc nL own ret R0) (hM : Ct Γ y bytes maxL rt rm (.ref (wad Γ o) :: As) M v M1) (mw : MW y bytes maxL rt n) (ln : Gd (.methodLink own idx y)) (mi : Gd (.instanceMethod y) ∧ Gd (.selects y.cls y y)) (ho : RC Γ o y.cls) (hr : RO rm R0 maxL cs sl) (hn : As.length = n) (hst : stk = As.reverse ++ .ref (wad Γ o) :: st) (hw : (st.map fun v => v.category).sum ≤ 8) (d : decode cc pc = .ok (.invokevirtual idx, 3)) (q : Nat) (hq : pc + 3 = q) (cs1 sl1 : Nat) (ec : cs + rm.cells = cs1) (es : sl + rm.slots = sl1) (K : G Γ X M1 cs1 sl1 L (v.toList ++ st) q) : G Γ X M cs sl L stk pc := by
  obtain ⟨p, e, R, s, m, args, below, meth, c, Q⟩ := X
  obtain ⟨hx, hb, hml, hown, hts, hW, hlk, hret, rfl, hK, hSs, hG⟩ := C
  subst hst; subst hml; subst hq; subst ec; subst es
  intro H locs ls a1 a2 a3 a4 a5
  exact callN (va_runV (Ts := []) (own := own) ⟨hx, hb, rfl, hown, fun _ h => nomatch h⟩ hM ⟨cw_B hW hts hG mw hr ln, hts _ mi.1, hts _ mi.2⟩ ⟨WP.blind, ho.recv hK a2, fun U hU hU2 => ⟨rfl, a1, State.WarmedH.trans hW hU2, by rw [hU]; exact S_nil a4, by rw [hU]; exact a2, a3⟩⟩ rfl hn a5.1 rfl (lv_room hw) d ⟨hr.2.2.1, hr.2.2.2⟩) a4 (fun H1 locs1 b1 b2 b3 b4 => K H1 locs1 ls b1 b2 b3 b4 a5)
theorem x_cVi {x : Int32} (C : CX Γ X cc nL own ret R0) (hM : Ct Γ y bytes maxL rt rm (.ref (wad Γ o) :: As) M (some (.int x)) M1) (mw : MW y bytes maxL rt n) (ln : Gd (.methodLink own idx y)) (mi : Gd (.instanceMethod y) ∧ Gd (.selects y.cls y y)) (ho : RC Γ o y.cls) (hr : RO rm R0 maxL cs sl) (hn : As.length = n) (hst : stk = As.reverse ++ .ref (wad Γ o) :: st) (hw : (st.map fun v => v.category).sum ≤ 8) (d : decode cc pc = .ok (.invokevirtual idx, 3)) (q : Nat) (hq : pc + 3 = q) (cs1 sl1 : Nat) (ec : cs + rm.cells = cs1) (es : sl + rm.slots = sl1) (K : G Γ X M1 cs1 sl1 L (.int x :: st) q) : G Γ X M cs sl L stk pc := x_cV C hM mw ln mi ho hr hn hst hw d q hq cs1 sl1 ec es K
theorem x_cVl {x : Int64} (C : CX Γ X cc nL own ret R0) (hM : Ct Γ y bytes maxL rt rm (.ref (wad Γ o) :: As) M (some (.long x)) M1) (mw : MW y bytes maxL rt n) (ln : Gd (.methodLink own idx y)) (mi : Gd (.instanceMethod y) ∧ Gd (.selects y.cls y y)) (ho : RC Γ o y.cls) (hr : RO rm R0 maxL cs sl) (hn : As.length = n) (hst : stk = As.reverse ++ .ref (wad Γ o) :: st) (hw : (st.map fun v => v.category).sum ≤ 8) (d : decode cc pc = .ok (.invokevirtual idx, 3)) (q : Nat) (hq : pc + 3 = q) (cs1 sl1 : Nat) (ec : cs + rm.cells = cs1) (es : sl + rm.slots = sl1) (K : G Γ X M1 cs1 sl1 L (.long x :: st) q) : G Γ X M cs sl L stk pc := x_cV C hM mw ln mi ho hr hn hst hw d q hq cs1 sl1 ec es K
theorem x_cVf {x : UInt32} (C : CX Γ X cc nL own ret R0) (hM : Ct Γ y bytes maxL rt rm (.ref (wad Γ o) :: As) M (some (.float x)) M1) (mw : MW y bytes maxL rt n) (ln : Gd (.methodLink own idx y)) (mi : Gd (.instanceMethod y) ∧ Gd (.selects y.cls y y)) (ho : RC Γ o y.cls) (hr : RO rm R0 maxL cs sl) (hn : As.length = n) (hst : stk = As.reverse ++ .ref (wad Γ o) :: st) (hw : (st.map fun v => v.category).sum ≤ 8) (d : decode cc pc = .ok (.invokevirtual idx, 3)) (q : Nat) (hq : pc + 3 = q) (cs1 sl1 : Nat) (ec : cs + rm.cells = cs1) (es : sl + rm.slots = sl1) (K : G Γ X M1 cs1 sl1 L (.float x :: st) q) : G Γ X M cs sl L stk pc := x_cV C hM mw ln mi ho hr hn hst hw d q hq cs1 sl1 ec es K
theorem x_cVv (C : CX Γ X cc nL own ret R0) (hM : Ct Γ y bytes maxL rt rm (.ref (wad Γ o) :: As) M none M1) (mw : MW y bytes maxL rt n) (ln : Gd (.methodLink own idx y)) (mi : Gd (.instanceMethod y) ∧ Gd (.selects y.cls y y)) (ho : RC Γ o y.cls) (hr : RO rm R0 maxL cs sl) (hn : As.length = n) (hst : stk = As.reverse ++ .ref (wad Γ o) :: st) (hw : (st.map fun v => v.category).sum ≤ 8) (d : decode cc pc = .ok (.invokevirtual idx, 3)) (q : Nat) (hq : pc + 3 = q) (cs1 sl1 : Nat) (ec : cs + rm.cells = cs1) (es : sl + rm.slots = sl1) (K : G Γ X M1 cs1 sl1 L st q) : G Γ X M cs sl L stk pc := x_cV C hM mw ln mi ho hr hn hst hw d q hq cs1 sl1 ec es K
theorem y_cV {α β : Type} {tv : α → Option Value} {fx : Option (Except Nat α × Mem)} {k : α → Mem → Option β} {ke : Nat → Mem → Option β} {rM : β} (C : CX Γ X cc nL own ret R0) (hf : clT fx k ke = some rM) (hM : ∀ r, fx = some r → CtT Γ y bytes maxL rt rm (.ref (wad Γ o) :: As) M tv r) (mw : MW y bytes maxL rt n) (ln : Gd (.methodLink own idx y)) (mi : Gd (.instanceMethod y) ∧ Gd (.selects y.cls y y)) (ho : RC Γ o y.cls) (hr : RO rm R0 maxL cs sl) (hn : As.length = n) (hst : stk = As.reverse ++ .ref (wad Γ o) :: st) (hw : (st.map fun v => v.category).sum ≤ 8) (d : decode cc pc = .ok (.invokevirtual idx, 3)) (q : Nat) (hq : pc + 3 = q) (cs1 sl1 : Nat) (ec : cs + rm.cells = cs1) (es : sl + rm.slots = sl1) (K : ∀ v M1, k v M1 = some rM → G Γ X M1 cs1 sl1 L ((tv v).toList ++ st) q) (KE : ∀ n M1, ke n M1 = some rM → GX Γ X M1 cs1 sl1 L st pc n) : G Γ X M cs sl L stk pc := by
  cases hfx : fx with
  | none => rw [hfx] at hf; exact nomatch hf
  | some r =>
    rw [hfx] at hf
    replace hM := hM r hfx
    obtain ⟨r1, r2⟩ := r
    obtain ⟨p, e, R, s, m, args, below, meth, c, Q⟩ := X
    obtain ⟨hx, hb, hml, hown, hts, hW, hlk, hret, rfl, hK, hSs, hG⟩ := C
    subst hst; subst hml; subst hq; subst ec; subst es
    intro H locs ls a1 a2 a3 a4 a5
    refine callX (vx_runV (Ts := []) (own := own) ⟨hx, hb, rfl, hown, fun _ h => nomatch h⟩ hM ⟨cw_B hW hts hG mw hr ln, hts _ mi.1, hts _ mi.2⟩ ⟨WP.blind, ho.recv hK a2, fun U hU hU2 => ⟨rfl, a1, State.WarmedH.trans hW hU2, by rw [hU]; exact S_nil a4, by rw [hU]; exact a2, a3⟩⟩ rfl hn a5.1 rfl (lv_room hw) d ⟨hr.2.2.1, hr.2.2.2⟩) a4 hW (fun v H1 locs1 e1 b1 b2 b3 b4 => ?_) (fun n H1 locs1 q ce e1 b1 b2 b3 b4 b5 b6 b7 => ?_)
    · cases e1
      exact K _ _ hf H1 locs1 ls b1 b2 b3 b4 a5
    · cases e1
      exact KE _ _ hf H1 locs1 ls q ce b1 b2 b3 b4 a5 b5 b6 b7
theorem x_cS {v : Option Value} (C : CX Γ X cc nL own ret R0) (hM : Ct Γ y bytes maxL rt rm As M v M1) (mw : MW y bytes maxL rt n) (ln : Gd (.methodLink own idx y)) (mi : Gd (.static y)) (hr : RO rm R0 maxL cs sl) (hn : As.length = n) (hst : stk = As.reverse ++ st) (hw : (st.map fun v => v.category).sum ≤ 8) (d : decode cc pc = .ok (.invokestatic idx, 3)) (q : Nat) (hq : pc + 3 = q) (cs1 sl1 : Nat) (ec : cs + rm.cells = cs1) (es : sl + rm.slots = sl1) (K : G Γ X M1 cs1 sl1 L (v.toList ++ st) q) : G Γ X M cs sl L stk pc := by
  obtain ⟨p, e, R, s, m, args, below, meth, c, Q⟩ := X
  obtain ⟨hx, hb, hml, hown, hts, hW, hlk, hret, rfl, hK, hSs, hG⟩ := C
  subst hst; subst hml; subst hq; subst ec; subst es
  intro H locs ls a1 a2 a3 a4 a5
  exact callN (va_runS (Ts := []) (own := own) ⟨hx, hb, rfl, hown, fun _ h => nomatch h⟩ hM ⟨cw_B hW hts hG mw hr ln, hts _ mi⟩ ⟨WP.blind, fun U hU hU2 => ⟨rfl, a1, State.WarmedH.trans hW hU2, by rw [hU]; exact S_nil a4, by rw [hU]; exact a2, a3⟩⟩ rfl hn a5.1 rfl (lv_room hw) d ⟨hr.2.2.1, hr.2.2.2⟩) a4 (fun H1 locs1 b1 b2 b3 b4 => K H1 locs1 ls b1 b2 b3 b4 a5)
theorem x_cSi {x : Int32} (C : CX Γ X cc nL own ret R0) (hM : Ct Γ y bytes maxL rt rm As M (some (.int x)) M1) (mw : MW y bytes maxL rt n) (ln : Gd (.methodLink own idx y)) (mi : Gd (.static y)) (hr : RO rm R0 maxL cs sl) (hn : As.length = n) (hst : stk = As.reverse ++ st) (hw : (st.map fun v => v.category).sum ≤ 8) (d : decode cc pc = .ok (.invokestatic idx, 3)) (q : Nat) (hq : pc + 3 = q) (cs1 sl1 : Nat) (ec : cs + rm.cells = cs1) (es : sl + rm.slots = sl1) (K : G Γ X M1 cs1 sl1 L (.int x :: st) q) : G Γ X M cs sl L stk pc := x_cS C hM mw ln mi hr hn hst hw d q hq cs1 sl1 ec es K
theorem x_cSl {x : Int64} (C : CX Γ X cc nL own ret R0) (hM : Ct Γ y bytes maxL rt rm As M (some (.long x)) M1) (mw : MW y bytes maxL rt n) (ln : Gd (.methodLink own idx y)) (mi : Gd (.static y)) (hr : RO rm R0 maxL cs sl) (hn : As.length = n) (hst : stk = As.reverse ++ st) (hw : (st.map fun v => v.category).sum ≤ 8) (d : decode cc pc = .ok (.invokestatic idx, 3)) (q : Nat) (hq : pc + 3 = q) (cs1 sl1 : Nat) (ec : cs + rm.cells = cs1) (es : sl + rm.slots = sl1) (K : G Γ X M1 cs1 sl1 L (.long x :: st) q) : G Γ X M cs sl L stk pc := x_cS C hM mw ln mi hr hn hst hw d q hq cs1 sl1 ec es K
theorem x_cSf {x : UInt32} (C : CX Γ X cc nL own ret R0) (hM : Ct Γ y bytes maxL rt rm As M (some (.float x)) M1) (mw : MW y bytes maxL rt n) (ln : Gd (.methodLink own idx y)) (mi : Gd (.static y)) (hr : RO rm R0 maxL cs sl) (hn : As.length = n) (hst : stk = As.reverse ++ st) (hw : (st.map fun v => v.category).sum ≤ 8) (d : decode cc pc = .ok (.invokestatic idx, 3)) (q : Nat) (hq : pc + 3 = q) (cs1 sl1 : Nat) (ec : cs + rm.cells = cs1) (es : sl + rm.slots = sl1) (K : G Γ X M1 cs1 sl1 L (.float x :: st) q) : G Γ X M cs sl L stk pc := x_cS C hM mw ln mi hr hn hst hw d q hq cs1 sl1 ec es K
theorem x_cSv (C : CX Γ X cc nL own ret R0) (hM : Ct Γ y bytes maxL rt rm As M none M1) (mw : MW y bytes maxL rt n) (ln : Gd (.methodLink own idx y)) (mi : Gd (.static y)) (hr : RO rm R0 maxL cs sl) (hn : As.length = n) (hst : stk = As.reverse ++ st) (hw : (st.map fun v => v.category).sum ≤ 8) (d : decode cc pc = .ok (.invokestatic idx, 3)) (q : Nat) (hq : pc + 3 = q) (cs1 sl1 : Nat) (ec : cs + rm.cells = cs1) (es : sl + rm.slots = sl1) (K : G Γ X M1 cs1 sl1 L st q) : G Γ X M cs sl L stk pc := x_cS C hM mw ln mi hr hn hst hw d q hq cs1 sl1 ec es K
theorem y_cS {α β : Type} {tv : α → Option Value} {fx : Option (Except Nat α × Mem)} {k : α → Mem → Option β} {ke : Nat → Mem → Option β} {rM : β} (C : CX Γ X cc nL own ret R0) (hf : clT fx k ke = some rM) (hM : ∀ r, fx = some r → CtT Γ y bytes maxL rt rm As M tv r) (mw : MW y bytes maxL rt n) (ln : Gd (.methodLink own idx y)) (mi : Gd (.static y)) (hr : RO rm R0 maxL cs sl) (hn : As.length = n) (hst : stk = As.reverse ++ st) (hw : (st.map fun v => v.category).sum ≤ 8) (d : decode cc pc = .ok (.invokestatic idx, 3)) (q : Nat) (hq : pc + 3 = q) (cs1 sl1 : Nat) (ec : cs + rm.cells = cs1) (es : sl + rm.slots = sl1) (K : ∀ v M1, k v M1 = some rM → G Γ X M1 cs1 sl1 L ((tv v).toList ++ st) q) (KE : ∀ n M1, ke n M1 = some rM → GX Γ X M1 cs1 sl1 L st pc n) : G Γ X M cs sl L stk pc := by
  cases hfx : fx with
  | none => rw [hfx] at hf; exact nomatch hf
  | some r =>
    rw [hfx] at hf
    replace hM := hM r hfx
    obtain ⟨r1, r2⟩ := r
    obtain ⟨p, e, R, s, m, args, below, meth, c, Q⟩ := X
    obtain ⟨hx, hb, hml, hown, hts, hW, hlk, hret, rfl, hK, hSs, hG⟩ := C
    subst hst; subst hml; subst hq; subst ec; subst es
    intro H locs ls a1 a2 a3 a4 a5
    refine callX (vx_runS (Ts := []) (own := own) ⟨hx, hb, rfl, hown, fun _ h => nomatch h⟩ hM ⟨cw_B hW hts hG mw hr ln, hts _ mi⟩ ⟨WP.blind, fun U hU hU2 => ⟨rfl, a1, State.WarmedH.trans hW hU2, by rw [hU]; exact S_nil a4, by rw [hU]; exact a2, a3⟩⟩ rfl hn a5.1 rfl (lv_room hw) d ⟨hr.2.2.1, hr.2.2.2⟩) a4 hW (fun v H1 locs1 e1 b1 b2 b3 b4 => ?_) (fun n H1 locs1 q ce e1 b1 b2 b3 b4 b5 b6 b7 => ?_)
    · cases e1
      exact K _ _ hf H1 locs1 ls b1 b2 b3 b4 a5
    · cases e1
      exact KE _ _ hf H1 locs1 ls q ce b1 b2 b3 b4 a5 b5 b6 b7
theorem x_cN {v : Option Value} (C : CX Γ X cc nL own ret R0) (hM : Ct Γ y bytes maxL rt rm As M v M1) (mw : MW y bytes maxL rt n) (ln : Gd (.methodLinkNest own idx y host)) (mi : Gd (.static y)) (hr : RO rm R0 maxL cs sl) (hn : As.length = n) (hst : stk = As.reverse ++ st) (hw : (st.map fun v => v.category).sum ≤ 8) (d : decode cc pc = .ok (.invokestatic idx, 3)) (q : Nat) (hq : pc + 3 = q) (cs1 sl1 : Nat) (ec : cs + rm.cells = cs1) (es : sl + rm.slots = sl1) (K : G Γ X M1 cs1 sl1 L (v.toList ++ st) q) : G Γ X M cs sl L stk pc := by
  obtain ⟨p, e, R, s, m, args, below, meth, c, Q⟩ := X
  obtain ⟨hx, hb, hml, hown, hts, hW, hlk, hret, rfl, hK, hSs, hG⟩ := C
  subst hst; subst hml; subst hq; subst ec; subst es
  intro H locs ls a1 a2 a3 a4 a5
  exact callN (va_runSN (Ts := []) (own := own) ⟨hx, hb, rfl, hown, fun _ h => nomatch h⟩ hM ⟨cw_N hW hts hG mw hr ln, hts _ mi, trivial⟩ ⟨WP.blind, fun U hU hU2 => ⟨rfl, a1, State.WarmedH.trans hW hU2, by rw [hU]; exact S_nil a4, by rw [hU]; exact a2, a3⟩⟩ rfl hn a5.1 rfl (lv_room hw) d ⟨hr.2.2.1, hr.2.2.2⟩) a4 (fun H1 locs1 b1 b2 b3 b4 => K H1 locs1 ls b1 b2 b3 b4 a5)
theorem x_cNi {x : Int32} (C : CX Γ X cc nL own ret R0) (hM : Ct Γ y bytes maxL rt rm As M (some (.int x)) M1) (mw : MW y bytes maxL rt n) (ln : Gd (.methodLinkNest own idx y host)) (mi : Gd (.static y)) (hr : RO rm R0 maxL cs sl) (hn : As.length = n) (hst : stk = As.reverse ++ st) (hw : (st.map fun v => v.category).sum ≤ 8) (d : decode cc pc = .ok (.invokestatic idx, 3)) (q : Nat) (hq : pc + 3 = q) (cs1 sl1 : Nat) (ec : cs + rm.cells = cs1) (es : sl + rm.slots = sl1) (K : G Γ X M1 cs1 sl1 L (.int x :: st) q) : G Γ X M cs sl L stk pc := x_cN C hM mw ln mi hr hn hst hw d q hq cs1 sl1 ec es K
theorem x_cNl {x : Int64} (C : CX Γ X cc nL own ret R0) (hM : Ct Γ y bytes maxL rt rm As M (some (.long x)) M1) (mw : MW y bytes maxL rt n) (ln : Gd (.methodLinkNest own idx y host)) (mi : Gd (.static y)) (hr : RO rm R0 maxL cs sl) (hn : As.length = n) (hst : stk = As.reverse ++ st) (hw : (st.map fun v => v.category).sum ≤ 8) (d : decode cc pc = .ok (.invokestatic idx, 3)) (q : Nat) (hq : pc + 3 = q) (cs1 sl1 : Nat) (ec : cs + rm.cells = cs1) (es : sl + rm.slots = sl1) (K : G Γ X M1 cs1 sl1 L (.long x :: st) q) : G Γ X M cs sl L stk pc := x_cN C hM mw ln mi hr hn hst hw d q hq cs1 sl1 ec es K
theorem x_cNf {x : UInt32} (C : CX Γ X cc nL own ret R0) (hM : Ct Γ y bytes maxL rt rm As M (some (.float x)) M1) (mw : MW y bytes maxL rt n) (ln : Gd (.methodLinkNest own idx y host)) (mi : Gd (.static y)) (hr : RO rm R0 maxL cs sl) (hn : As.length = n) (hst : stk = As.reverse ++ st) (hw : (st.map fun v => v.category).sum ≤ 8) (d : decode cc pc = .ok (.invokestatic idx, 3)) (q : Nat) (hq : pc + 3 = q) (cs1 sl1 : Nat) (ec : cs + rm.cells = cs1) (es : sl + rm.slots = sl1) (K : G Γ X M1 cs1 sl1 L (.float x :: st) q) : G Γ X M cs sl L stk pc := x_cN C hM mw ln mi hr hn hst hw d q hq cs1 sl1 ec es K
theorem x_cNv (C : CX Γ X cc nL own ret R0) (hM : Ct Γ y bytes maxL rt rm As M none M1) (mw : MW y bytes maxL rt n) (ln : Gd (.methodLinkNest own idx y host)) (mi : Gd (.static y)) (hr : RO rm R0 maxL cs sl) (hn : As.length = n) (hst : stk = As.reverse ++ st) (hw : (st.map fun v => v.category).sum ≤ 8) (d : decode cc pc = .ok (.invokestatic idx, 3)) (q : Nat) (hq : pc + 3 = q) (cs1 sl1 : Nat) (ec : cs + rm.cells = cs1) (es : sl + rm.slots = sl1) (K : G Γ X M1 cs1 sl1 L st q) : G Γ X M cs sl L stk pc := x_cN C hM mw ln mi hr hn hst hw d q hq cs1 sl1 ec es K
theorem x_cI {v : Option Value} (C : CX Γ X cc nL own ret R0) (hM : Ct Γ y bytes maxL none rm (.ref (wad Γ o) :: As) M v M1) (mw : MW y bytes maxL none n) (ln : Gd (.methodLink own idx y)) (mi : Gd (.instanceMethod y) ∧ y.name = "<init>") (hr : RO rm R0 maxL cs sl) (hn : As.length = n) (hst : stk = As.reverse ++ .ref (wad Γ o) :: st) (hw : (st.map fun v => v.category).sum ≤ 8) (d : decode cc pc = .ok (.invokespecial idx, 3)) (q : Nat) (hq : pc + 3 = q) (cs1 sl1 : Nat) (ec : cs + rm.cells = cs1) (es : sl + rm.slots = sl1) (K : G Γ X M1 cs1 sl1 L (v.toList ++ st) q) : G Γ X M cs sl L stk pc := by
  obtain ⟨p, e, R, s, m, args, below, meth, c, Q⟩ := X
  obtain ⟨hx, hb, hml, hown, hts, hW, hlk, hret, rfl, hK, hSs, hG⟩ := C
  subst hst; subst hml; subst hq; subst ec; subst es
  intro H locs ls a1 a2 a3 a4 a5
  exact callN (va_runI (Ts := []) (own := own) ⟨hx, hb, rfl, hown, fun _ h => nomatch h⟩ hM ⟨cw_B hW hts hG mw hr ln, mi.2, hts _ mi.1⟩ ⟨WP.blind, fun U hU hU2 => ⟨rfl, a1, State.WarmedH.trans hW hU2, by rw [hU]; exact S_nil a4, by rw [hU]; exact a2, a3⟩⟩ rfl hn a5.1 rfl (lv_room hw) d ⟨hr.2.2.1, hr.2.2.2⟩) a4 (fun H1 locs1 b1 b2 b3 b4 => K H1 locs1 ls b1 b2 b3 b4 a5)
theorem x_cIv (C : CX Γ X cc nL own ret R0) (hM : Ct Γ y bytes maxL none rm (.ref (wad Γ o) :: As) M none M1) (mw : MW y bytes maxL none n) (ln : Gd (.methodLink own idx y)) (mi : Gd (.instanceMethod y) ∧ y.name = "<init>") (hr : RO rm R0 maxL cs sl) (hn : As.length = n) (hst : stk = As.reverse ++ .ref (wad Γ o) :: st) (hw : (st.map fun v => v.category).sum ≤ 8) (d : decode cc pc = .ok (.invokespecial idx, 3)) (q : Nat) (hq : pc + 3 = q) (cs1 sl1 : Nat) (ec : cs + rm.cells = cs1) (es : sl + rm.slots = sl1) (K : G Γ X M1 cs1 sl1 L st q) : G Γ X M cs sl L stk pc := x_cI C hM mw ln mi hr hn hst hw d q hq cs1 sl1 ec es K
theorem x_cJ {v : Option Value} (C : CX Γ X cc nL own ret R0) (hM : Ct Γ y bytes maxL none rm (.ref (wad Γ o) :: As) M v M1) (mw : MW y bytes maxL none n) (ln : Gd (.methodLinkNest own idx y host)) (mi : Gd (.instanceMethod y) ∧ y.name = "<init>") (hr : RO rm R0 maxL cs sl) (hn : As.length = n) (hst : stk = As.reverse ++ .ref (wad Γ o) :: st) (hw : (st.map fun v => v.category).sum ≤ 8) (d : decode cc pc = .ok (.invokespecial idx, 3)) (q : Nat) (hq : pc + 3 = q) (cs1 sl1 : Nat) (ec : cs + rm.cells = cs1) (es : sl + rm.slots = sl1) (K : G Γ X M1 cs1 sl1 L (v.toList ++ st) q) : G Γ X M cs sl L stk pc := by
  obtain ⟨p, e, R, s, m, args, below, meth, c, Q⟩ := X
  obtain ⟨hx, hb, hml, hown, hts, hW, hlk, hret, rfl, hK, hSs, hG⟩ := C
  subst hst; subst hml; subst hq; subst ec; subst es
  intro H locs ls a1 a2 a3 a4 a5
  exact callN (va_runIN (Ts := []) (own := own) ⟨hx, hb, rfl, hown, fun _ h => nomatch h⟩ hM ⟨cw_N hW hts hG mw hr ln, mi.2, hts _ mi.1⟩ ⟨WP.blind, fun U hU hU2 => ⟨rfl, a1, State.WarmedH.trans hW hU2, by rw [hU]; exact S_nil a4, by rw [hU]; exact a2, a3⟩⟩ rfl hn a5.1 rfl (lv_room hw) d ⟨hr.2.2.1, hr.2.2.2⟩) a4 (fun H1 locs1 b1 b2 b3 b4 => K H1 locs1 ls b1 b2 b3 b4 a5)
theorem x_cJv (C : CX Γ X cc nL own ret R0) (hM : Ct Γ y bytes maxL none rm (.ref (wad Γ o) :: As) M none M1) (mw : MW y bytes maxL none n) (ln : Gd (.methodLinkNest own idx y host)) (mi : Gd (.instanceMethod y) ∧ y.name = "<init>") (hr : RO rm R0 maxL cs sl) (hn : As.length = n) (hst : stk = As.reverse ++ .ref (wad Γ o) :: st) (hw : (st.map fun v => v.category).sum ≤ 8) (d : decode cc pc = .ok (.invokespecial idx, 3)) (q : Nat) (hq : pc + 3 = q) (cs1 sl1 : Nat) (ec : cs + rm.cells = cs1) (es : sl + rm.slots = sl1) (K : G Γ X M1 cs1 sl1 L st q) : G Γ X M cs sl L stk pc := x_cJ C hM mw ln mi hr hn hst hw d q hq cs1 sl1 ec es K
theorem GX.out {α : Type} {tv : α → Option Value} {rM : Except Nat α × Mem} {n9 : Nat} (C : CX Γ X cc nL own ret R0) (E : EndT Γ X tv rM mcX msX) (hf : pr n9 M = some rM) (hc : cs ≤ mcX) (hs : sl ≤ msX) : GX Γ X M cs sl L st pc n9 := by
  obtain ⟨p, e, R, s, m, args, below, meth, c, Q⟩ := X
  obtain ⟨hx, hb, hml, hown, hts, hW, hlk, hret, rfl, hK, hSs, hG⟩ := C
  cases hf
  intro H locs ls q ce a1 a2 a3 a4 a5 b1 b2 b3
  rw [show Q = _ from E.1]
  exact vx_out (fun x h => absurd (E.2 x h) id) hlk b1 b2 b3 (fun t ht hv => ⟨_, rfl, rfl, a1, by rw [ht]; exact S_nil a4, by rw [ht]; exact a2, a3⟩) a4.2.2 hc hs
theorem t_cVi {α9 : Type} {tvX : α9 → Option Value} {fx : Option (Except Nat Int32 × Mem)} {k : Int32 → Mem → Option (Except Nat α9 × Mem)} {rM : Except Nat α9 × Mem} (C : CX Γ X cc nL own ret R0) (E : EndT Γ X tvX rM mcX msX) (hf : clT fx k pr = some rM) (hM : ∀ r, fx = some r → CtT Γ y bytes maxL rt rm (.ref (wad Γ o) :: As) M (fun v => some (.int v)) r) (mw : MW y bytes maxL rt n) (ln : Gd (.methodLink own idx y)) (mi : Gd (.instanceMethod y) ∧ Gd (.selects y.cls y y)) (ho : RC Γ o y.cls) (hr : RO rm R0 maxL cs sl) (hn : As.length = n) (hst : stk = As.reverse ++ .ref (wad Γ o) :: st) (hw : (st.map fun v => v.category).sum ≤ 8) (d : decode cc pc = .ok (.invokevirtual idx, 3)) (q : Nat) (hq : pc + 3 = q) (cs1 sl1 : Nat) (ec : cs + rm.cells = cs1) (es : sl + rm.slots = sl1) (hc : cs1 ≤ mcX) (hs : sl1 ≤ msX) (K : ∀ v M1, k v M1 = some rM → G Γ X M1 cs1 sl1 L (.int v :: st) q) : G Γ X M cs sl L stk pc :=
  y_cV C hf hM mw ln mi ho hr hn hst hw d q hq cs1 sl1 ec es K (fun _ _ h => GX.out C E h hc hs)
theorem h_cVi {β : Type} {fx : Option (Except Nat Int32 × Mem)} {k : Int32 → Mem → Option β} {ke : Nat → Mem → Option β} {rM : β} (C : CX Γ X cc nL own ret R0) (hf : clT fx k ke = some rM) (hM : ∀ r, fx = some r → CtT Γ y bytes maxL rt rm (.ref (wad Γ o) :: As) M (fun v => some (.int v)) r) (mw : MW y bytes maxL rt n) (ln : Gd (.methodLink own idx y)) (mi : Gd (.instanceMethod y) ∧ Gd (.selects y.cls y y)) (ho : RC Γ o y.cls) (hr : RO rm R0 maxL cs sl) (hn : As.length = n) (hst : stk = As.reverse ++ .ref (wad Γ o) :: st) (hw : (st.map fun v => v.category).sum ≤ 8) (d : decode cc pc = .ok (.invokevirtual idx, 3)) (q : Nat) (hq : pc + 3 = q) (cs1 sl1 : Nat) (ec : cs + rm.cells = cs1) (es : sl + rm.slots = sl1) (K : ∀ v M1, k v M1 = some rM → G Γ X M1 cs1 sl1 L (.int v :: st) q) (KE : ∀ n M1, ke n M1 = some rM → GX Γ X M1 cs1 sl1 L st pc n) : G Γ X M cs sl L stk pc :=
  y_cV C hf hM mw ln mi ho hr hn hst hw d q hq cs1 sl1 ec es K KE
theorem t_cVl {α9 : Type} {tvX : α9 → Option Value} {fx : Option (Except Nat Int64 × Mem)} {k : Int64 → Mem → Option (Except Nat α9 × Mem)} {rM : Except Nat α9 × Mem} (C : CX Γ X cc nL own ret R0) (E : EndT Γ X tvX rM mcX msX) (hf : clT fx k pr = some rM) (hM : ∀ r, fx = some r → CtT Γ y bytes maxL rt rm (.ref (wad Γ o) :: As) M (fun v => some (.long v)) r) (mw : MW y bytes maxL rt n) (ln : Gd (.methodLink own idx y)) (mi : Gd (.instanceMethod y) ∧ Gd (.selects y.cls y y)) (ho : RC Γ o y.cls) (hr : RO rm R0 maxL cs sl) (hn : As.length = n) (hst : stk = As.reverse ++ .ref (wad Γ o) :: st) (hw : (st.map fun v => v.category).sum ≤ 8) (d : decode cc pc = .ok (.invokevirtual idx, 3)) (q : Nat) (hq : pc + 3 = q) (cs1 sl1 : Nat) (ec : cs + rm.cells = cs1) (es : sl + rm.slots = sl1) (hc : cs1 ≤ mcX) (hs : sl1 ≤ msX) (K : ∀ v M1, k v M1 = some rM → G Γ X M1 cs1 sl1 L (.long v :: st) q) : G Γ X M cs sl L stk pc :=
  y_cV C hf hM mw ln mi ho hr hn hst hw d q hq cs1 sl1 ec es K (fun _ _ h => GX.out C E h hc hs)
theorem h_cVl {β : Type} {fx : Option (Except Nat Int64 × Mem)} {k : Int64 → Mem → Option β} {ke : Nat → Mem → Option β} {rM : β} (C : CX Γ X cc nL own ret R0) (hf : clT fx k ke = some rM) (hM : ∀ r, fx = some r → CtT Γ y bytes maxL rt rm (.ref (wad Γ o) :: As) M (fun v => some (.long v)) r) (mw : MW y bytes maxL rt n) (ln : Gd (.methodLink own idx y)) (mi : Gd (.instanceMethod y) ∧ Gd (.selects y.cls y y)) (ho : RC Γ o y.cls) (hr : RO rm R0 maxL cs sl) (hn : As.length = n) (hst : stk = As.reverse ++ .ref (wad Γ o) :: st) (hw : (st.map fun v => v.category).sum ≤ 8) (d : decode cc pc = .ok (.invokevirtual idx, 3)) (q : Nat) (hq : pc + 3 = q) (cs1 sl1 : Nat) (ec : cs + rm.cells = cs1) (es : sl + rm.slots = sl1) (K : ∀ v M1, k v M1 = some rM → G Γ X M1 cs1 sl1 L (.long v :: st) q) (KE : ∀ n M1, ke n M1 = some rM → GX Γ X M1 cs1 sl1 L st pc n) : G Γ X M cs sl L stk pc :=
  y_cV C hf hM mw ln mi ho hr hn hst hw d q hq cs1 sl1 ec es K KE
theorem t_cVf {α9 : Type} {tvX : α9 → Option Value} {fx : Option (Except Nat UInt32 × Mem)} {k : UInt32 → Mem → Option (Except Nat α9 × Mem)} {rM : Except Nat α9 × Mem} (C : CX Γ X cc nL own ret R0) (E : EndT Γ X tvX rM mcX msX) (hf : clT fx k pr = some rM) (hM : ∀ r, fx = some r → CtT Γ y bytes maxL rt rm (.ref (wad Γ o) :: As) M (fun v => some (.float v)) r) (mw : MW y bytes maxL rt n) (ln : Gd (.methodLink own idx y)) (mi : Gd (.instanceMethod y) ∧ Gd (.selects y.cls y y)) (ho : RC Γ o y.cls) (hr : RO rm R0 maxL cs sl) (hn : As.length = n) (hst : stk = As.reverse ++ .ref (wad Γ o) :: st) (hw : (st.map fun v => v.category).sum ≤ 8) (d : decode cc pc = .ok (.invokevirtual idx, 3)) (q : Nat) (hq : pc + 3 = q) (cs1 sl1 : Nat) (ec : cs + rm.cells = cs1) (es : sl + rm.slots = sl1) (hc : cs1 ≤ mcX) (hs : sl1 ≤ msX) (K : ∀ v M1, k v M1 = some rM → G Γ X M1 cs1 sl1 L (.float v :: st) q) : G Γ X M cs sl L stk pc :=
  y_cV C hf hM mw ln mi ho hr hn hst hw d q hq cs1 sl1 ec es K (fun _ _ h => GX.out C E h hc hs)
theorem h_cVf {β : Type} {fx : Option (Except Nat UInt32 × Mem)} {k : UInt32 → Mem → Option β} {ke : Nat → Mem → Option β} {rM : β} (C : CX Γ X cc nL own ret R0) (hf : clT fx k ke = some rM) (hM : ∀ r, fx = some r → CtT Γ y bytes maxL rt rm (.ref (wad Γ o) :: As) M (fun v => some (.float v)) r) (mw : MW y bytes maxL rt n) (ln : Gd (.methodLink own idx y)) (mi : Gd (.instanceMethod y) ∧ Gd (.selects y.cls y y)) (ho : RC Γ o y.cls) (hr : RO rm R0 maxL cs sl) (hn : As.length = n) (hst : stk = As.reverse ++ .ref (wad Γ o) :: st) (hw : (st.map fun v => v.category).sum ≤ 8) (d : decode cc pc = .ok (.invokevirtual idx, 3)) (q : Nat) (hq : pc + 3 = q) (cs1 sl1 : Nat) (ec : cs + rm.cells = cs1) (es : sl + rm.slots = sl1) (K : ∀ v M1, k v M1 = some rM → G Γ X M1 cs1 sl1 L (.float v :: st) q) (KE : ∀ n M1, ke n M1 = some rM → GX Γ X M1 cs1 sl1 L st pc n) : G Γ X M cs sl L stk pc :=
  y_cV C hf hM mw ln mi ho hr hn hst hw d q hq cs1 sl1 ec es K KE
theorem t_cVv {α9 : Type} {tvX : α9 → Option Value} {fx : Option (Except Nat Unit × Mem)} {k : Unit → Mem → Option (Except Nat α9 × Mem)} {rM : Except Nat α9 × Mem} (C : CX Γ X cc nL own ret R0) (E : EndT Γ X tvX rM mcX msX) (hf : clT fx k pr = some rM) (hM : ∀ r, fx = some r → CtT Γ y bytes maxL rt rm (.ref (wad Γ o) :: As) M (fun _ => none) r) (mw : MW y bytes maxL rt n) (ln : Gd (.methodLink own idx y)) (mi : Gd (.instanceMethod y) ∧ Gd (.selects y.cls y y)) (ho : RC Γ o y.cls) (hr : RO rm R0 maxL cs sl) (hn : As.length = n) (hst : stk = As.reverse ++ .ref (wad Γ o) :: st) (hw : (st.map fun v => v.category).sum ≤ 8) (d : decode cc pc = .ok (.invokevirtual idx, 3)) (q : Nat) (hq : pc + 3 = q) (cs1 sl1 : Nat) (ec : cs + rm.cells = cs1) (es : sl + rm.slots = sl1) (hc : cs1 ≤ mcX) (hs : sl1 ≤ msX) (K : ∀ v M1, k v M1 = some rM → G Γ X M1 cs1 sl1 L st q) : G Γ X M cs sl L stk pc :=
  y_cV C hf hM mw ln mi ho hr hn hst hw d q hq cs1 sl1 ec es K (fun _ _ h => GX.out C E h hc hs)
theorem h_cVv {β : Type} {fx : Option (Except Nat Unit × Mem)} {k : Unit → Mem → Option β} {ke : Nat → Mem → Option β} {rM : β} (C : CX Γ X cc nL own ret R0) (hf : clT fx k ke = some rM) (hM : ∀ r, fx = some r → CtT Γ y bytes maxL rt rm (.ref (wad Γ o) :: As) M (fun _ => none) r) (mw : MW y bytes maxL rt n) (ln : Gd (.methodLink own idx y)) (mi : Gd (.instanceMethod y) ∧ Gd (.selects y.cls y y)) (ho : RC Γ o y.cls) (hr : RO rm R0 maxL cs sl) (hn : As.length = n) (hst : stk = As.reverse ++ .ref (wad Γ o) :: st) (hw : (st.map fun v => v.category).sum ≤ 8) (d : decode cc pc = .ok (.invokevirtual idx, 3)) (q : Nat) (hq : pc + 3 = q) (cs1 sl1 : Nat) (ec : cs + rm.cells = cs1) (es : sl + rm.slots = sl1) (K : ∀ v M1, k v M1 = some rM → G Γ X M1 cs1 sl1 L st q) (KE : ∀ n M1, ke n M1 = some rM → GX Γ X M1 cs1 sl1 L st pc n) : G Γ X M cs sl L stk pc :=
  y_cV C hf hM mw ln mi ho hr hn hst hw d q hq cs1 sl1 ec es K KE
theorem t_cSi {α9 : Type} {tvX : α9 → Option Value} {fx : Option (Except Nat Int32 × Mem)} {k : Int32 → Mem → Option (Except Nat α9 × Mem)} {rM : Except Nat α9 × Mem} (C : CX Γ X cc nL own ret R0) (E : EndT Γ X tvX rM mcX msX) (hf : clT fx k pr = some rM) (hM : ∀ r, fx = some r → CtT Γ y bytes maxL rt rm As M (fun v => some (.int v)) r) (mw : MW y bytes maxL rt n) (ln : Gd (.methodLink own idx y)) (mi : Gd (.static y)) (hr : RO rm R0 maxL cs sl) (hn : As.length = n) (hst : stk = As.reverse ++ st) (hw : (st.map fun v => v.category).sum ≤ 8) (d : decode cc pc = .ok (.invokestatic idx, 3)) (q : Nat) (hq : pc + 3 = q) (cs1 sl1 : Nat) (ec : cs + rm.cells = cs1) (es : sl + rm.slots = sl1) (hc : cs1 ≤ mcX) (hs : sl1 ≤ msX) (K : ∀ v M1, k v M1 = some rM → G Γ X M1 cs1 sl1 L (.int v :: st) q) : G Γ X M cs sl L stk pc :=
  y_cS C hf hM mw ln mi hr hn hst hw d q hq cs1 sl1 ec es K (fun _ _ h => GX.out C E h hc hs)
theorem h_cSi {β : Type} {fx : Option (Except Nat Int32 × Mem)} {k : Int32 → Mem → Option β} {ke : Nat → Mem → Option β} {rM : β} (C : CX Γ X cc nL own ret R0) (hf : clT fx k ke = some rM) (hM : ∀ r, fx = some r → CtT Γ y bytes maxL rt rm As M (fun v => some (.int v)) r) (mw : MW y bytes maxL rt n) (ln : Gd (.methodLink own idx y)) (mi : Gd (.static y)) (hr : RO rm R0 maxL cs sl) (hn : As.length = n) (hst : stk = As.reverse ++ st) (hw : (st.map fun v => v.category).sum ≤ 8) (d : decode cc pc = .ok (.invokestatic idx, 3)) (q : Nat) (hq : pc + 3 = q) (cs1 sl1 : Nat) (ec : cs + rm.cells = cs1) (es : sl + rm.slots = sl1) (K : ∀ v M1, k v M1 = some rM → G Γ X M1 cs1 sl1 L (.int v :: st) q) (KE : ∀ n M1, ke n M1 = some rM → GX Γ X M1 cs1 sl1 L st pc n) : G Γ X M cs sl L stk pc :=
  y_cS C hf hM mw ln mi hr hn hst hw d q hq cs1 sl1 ec es K KE
theorem t_cSl {α9 : Type} {tvX : α9 → Option Value} {fx : Option (Except Nat Int64 × Mem)} {k : Int64 → Mem → Option (Except Nat α9 × Mem)} {rM : Except Nat α9 × Mem} (C : CX Γ X cc nL own ret R0) (E : EndT Γ X tvX rM mcX msX) (hf : clT fx k pr = some rM) (hM : ∀ r, fx = some r → CtT Γ y bytes maxL rt rm As M (fun v => some (.long v)) r) (mw : MW y bytes maxL rt n) (ln : Gd (.methodLink own idx y)) (mi : Gd (.static y)) (hr : RO rm R0 maxL cs sl) (hn : As.length = n) (hst : stk = As.reverse ++ st) (hw : (st.map fun v => v.category).sum ≤ 8) (d : decode cc pc = .ok (.invokestatic idx, 3)) (q : Nat) (hq : pc + 3 = q) (cs1 sl1 : Nat) (ec : cs + rm.cells = cs1) (es : sl + rm.slots = sl1) (hc : cs1 ≤ mcX) (hs : sl1 ≤ msX) (K : ∀ v M1, k v M1 = some rM → G Γ X M1 cs1 sl1 L (.long v :: st) q) : G Γ X M cs sl L stk pc :=
  y_cS C hf hM mw ln mi hr hn hst hw d q hq cs1 sl1 ec es K (fun _ _ h => GX.out C E h hc hs)
theorem h_cSl {β : Type} {fx : Option (Except Nat Int64 × Mem)} {k : Int64 → Mem → Option β} {ke : Nat → Mem → Option β} {rM : β} (C : CX Γ X cc nL own ret R0) (hf : clT fx k ke = some rM) (hM : ∀ r, fx = some r → CtT Γ y bytes maxL rt rm As M (fun v => some (.long v)) r) (mw : MW y bytes maxL rt n) (ln : Gd (.methodLink own idx y)) (mi : Gd (.static y)) (hr : RO rm R0 maxL cs sl) (hn : As.length = n) (hst : stk = As.reverse ++ st) (hw : (st.map fun v => v.category).sum ≤ 8) (d : decode cc pc = .ok (.invokestatic idx, 3)) (q : Nat) (hq : pc + 3 = q) (cs1 sl1 : Nat) (ec : cs + rm.cells = cs1) (es : sl + rm.slots = sl1) (K : ∀ v M1, k v M1 = some rM → G Γ X M1 cs1 sl1 L (.long v :: st) q) (KE : ∀ n M1, ke n M1 = some rM → GX Γ X M1 cs1 sl1 L st pc n) : G Γ X M cs sl L stk pc :=
  y_cS C hf hM mw ln mi hr hn hst hw d q hq cs1 sl1 ec es K KE
theorem t_cSf {α9 : Type} {tvX : α9 → Option Value} {fx : Option (Except Nat UInt32 × Mem)} {k : UInt32 → Mem → Option (Except Nat α9 × Mem)} {rM : Except Nat α9 × Mem} (C : CX Γ X cc nL own ret R0) (E : EndT Γ X tvX rM mcX msX) (hf : clT fx k pr = some rM) (hM : ∀ r, fx = some r → CtT Γ y bytes maxL rt rm As M (fun v => some (.float v)) r) (mw : MW y bytes maxL rt n) (ln : Gd (.methodLink own idx y)) (mi : Gd (.static y)) (hr : RO rm R0 maxL cs sl) (hn : As.length = n) (hst : stk = As.reverse ++ st) (hw : (st.map fun v => v.category).sum ≤ 8) (d : decode cc pc = .ok (.invokestatic idx, 3)) (q : Nat) (hq : pc + 3 = q) (cs1 sl1 : Nat) (ec : cs + rm.cells = cs1) (es : sl + rm.slots = sl1) (hc : cs1 ≤ mcX) (hs : sl1 ≤ msX) (K : ∀ v M1, k v M1 = some rM → G Γ X M1 cs1 sl1 L (.float v :: st) q) : G Γ X M cs sl L stk pc :=
  y_cS C hf hM mw ln mi hr hn hst hw d q hq cs1 sl1 ec es K (fun _ _ h => GX.out C E h hc hs)
theorem h_cSf {β : Type} {fx : Option (Except Nat UInt32 × Mem)} {k : UInt32 → Mem → Option β} {ke : Nat → Mem → Option β} {rM : β} (C : CX Γ X cc nL own ret R0) (hf : clT fx k ke = some rM) (hM : ∀ r, fx = some r → CtT Γ y bytes maxL rt rm As M (fun v => some (.float v)) r) (mw : MW y bytes maxL rt n) (ln : Gd (.methodLink own idx y)) (mi : Gd (.static y)) (hr : RO rm R0 maxL cs sl) (hn : As.length = n) (hst : stk = As.reverse ++ st) (hw : (st.map fun v => v.category).sum ≤ 8) (d : decode cc pc = .ok (.invokestatic idx, 3)) (q : Nat) (hq : pc + 3 = q) (cs1 sl1 : Nat) (ec : cs + rm.cells = cs1) (es : sl + rm.slots = sl1) (K : ∀ v M1, k v M1 = some rM → G Γ X M1 cs1 sl1 L (.float v :: st) q) (KE : ∀ n M1, ke n M1 = some rM → GX Γ X M1 cs1 sl1 L st pc n) : G Γ X M cs sl L stk pc :=
  y_cS C hf hM mw ln mi hr hn hst hw d q hq cs1 sl1 ec es K KE
theorem t_cSv {α9 : Type} {tvX : α9 → Option Value} {fx : Option (Except Nat Unit × Mem)} {k : Unit → Mem → Option (Except Nat α9 × Mem)} {rM : Except Nat α9 × Mem} (C : CX Γ X cc nL own ret R0) (E : EndT Γ X tvX rM mcX msX) (hf : clT fx k pr = some rM) (hM : ∀ r, fx = some r → CtT Γ y bytes maxL rt rm As M (fun _ => none) r) (mw : MW y bytes maxL rt n) (ln : Gd (.methodLink own idx y)) (mi : Gd (.static y)) (hr : RO rm R0 maxL cs sl) (hn : As.length = n) (hst : stk = As.reverse ++ st) (hw : (st.map fun v => v.category).sum ≤ 8) (d : decode cc pc = .ok (.invokestatic idx, 3)) (q : Nat) (hq : pc + 3 = q) (cs1 sl1 : Nat) (ec : cs + rm.cells = cs1) (es : sl + rm.slots = sl1) (hc : cs1 ≤ mcX) (hs : sl1 ≤ msX) (K : ∀ v M1, k v M1 = some rM → G Γ X M1 cs1 sl1 L st q) : G Γ X M cs sl L stk pc :=
  y_cS C hf hM mw ln mi hr hn hst hw d q hq cs1 sl1 ec es K (fun _ _ h => GX.out C E h hc hs)
theorem h_cSv {β : Type} {fx : Option (Except Nat Unit × Mem)} {k : Unit → Mem → Option β} {ke : Nat → Mem → Option β} {rM : β} (C : CX Γ X cc nL own ret R0) (hf : clT fx k ke = some rM) (hM : ∀ r, fx = some r → CtT Γ y bytes maxL rt rm As M (fun _ => none) r) (mw : MW y bytes maxL rt n) (ln : Gd (.methodLink own idx y)) (mi : Gd (.static y)) (hr : RO rm R0 maxL cs sl) (hn : As.length = n) (hst : stk = As.reverse ++ st) (hw : (st.map fun v => v.category).sum ≤ 8) (d : decode cc pc = .ok (.invokestatic idx, 3)) (q : Nat) (hq : pc + 3 = q) (cs1 sl1 : Nat) (ec : cs + rm.cells = cs1) (es : sl + rm.slots = sl1) (K : ∀ v M1, k v M1 = some rM → G Γ X M1 cs1 sl1 L st q) (KE : ∀ n M1, ke n M1 = some rM → GX Γ X M1 cs1 sl1 L st pc n) : G Γ X M cs sl L stk pc :=
  y_cS C hf hM mw ln mi hr hn hst hw d q hq cs1 sl1 ec es K KE
theorem cl_inv {α β : Type} {x : Option (α × Mem)} {k : α → Mem → Option β} {r : β} (h : cl x k = some r) : ∃ a m, x = some (a, m) ∧ k a m = some r := by
  unfold cl at h
  cases x with
  | none => exact nomatch h
  | some q => exact ⟨q.1, q.2, rfl, h⟩
end Calls2
