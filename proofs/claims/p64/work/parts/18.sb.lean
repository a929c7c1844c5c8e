/-! the text builder: rows of bytes of a length that the memory keeps -/
section SbRows
variable {Γ : WC} {X : MX} {M : Mem} {cs sl : Nat} {L : List (Option Value)} {st : List Value} {pc : Nat} {cc : ByteArray} {nL : Nat} {own : String} {ret : Option FieldType} {R0 : Room} {idx : Nat}
theorem x_ldcI (C : CX Γ X cc nL own ret R0) {v : Int32} (hc : Gd (.constant own idx v)) (d : decode cc pc = .ok (.ldc idx, 2)) (q : Nat) (hq : pc + 2 = q) (k : G Γ X M cs sl L (.int v :: st) q) : G Γ X M cs sl L st pc := by
  subst hq
  obtain ⟨p, e, R, s, m, args, below, meth, c, Q⟩ := X
  obtain ⟨hx, hb, hml, hown, hts, hW, hlk, hret, hR, hK, hSs, hG⟩ := C
  intro H locs ls a1 a2 a3 a4 a5
  exact lv_ldc hx hb hown (hts _ hc) d (k H locs ls a1 a2 a3 a4 a5)
theorem x_null (C : CX Γ X cc nL own ret R0) (d : decode cc pc = .ok (.aconst_null, 1)) (q : Nat) (hq : pc + 1 = q) (k : G Γ X M cs sl L (.null :: st) q) : G Γ X M cs sl L st pc := by
  subst hq
  obtain ⟨p, e, R, s, m, args, below, meth, c, Q⟩ := X
  obtain ⟨hx, hb, hml, hown, hts, hW, hlk, hret, hR, hK, hSs, hG⟩ := C
  intro H locs ls a1 a2 a3 a4 a5
  exact lv_null hx hb d (k H locs ls a1 a2 a3 a4 a5)
theorem x_dup_x1 (C : CX Γ X cc nL own ret R0) {v u : Value} (hv : v.category = 1) (hu : u.category = 1) (d : decode cc pc = .ok (.dup_x1, 1)) (q : Nat) (hq : pc + 1 = q) (k : G Γ X M cs sl L (v :: u :: v :: st) q) : G Γ X M cs sl L (v :: u :: st) pc := by
  subst hq
  obtain ⟨p, e, R, s, m, args, below, meth, c, Q⟩ := X
  obtain ⟨hx, hb, hml, hown, hts, hW, hlk, hret, hR, hK, hSs, hG⟩ := C
  intro H locs ls a1 a2 a3 a4 a5
  exact lv_dup_x1 hx hb d hv hu (k H locs ls a1 a2 a3 a4 a5)
theorem x_ifnonnull (C : CX Γ X cc nL own ret R0) {x : Nat} {off : Int} (tgt : Nat) (d : decode cc pc = .ok (.ifnonnull off, 3)) (ht : (pc : Int) + off = (tgt : Int)) (k : G Γ X M cs sl L st tgt) : G Γ X M cs sl L (.ref x :: st) pc := by
  obtain ⟨p, e, R, s, m, args, below, meth, c, Q⟩ := X
  obtain ⟨hx, hb, hml, hown, hts, hW, hlk, hret, hR, hK, hSs, hG⟩ := C
  intro H locs ls a1 a2 a3 a4 a5
  exact lv_ifnonnull hx hb d ht (k H locs ls a1 a2 a3 a4 a5)
theorem x_baldV (C : CX Γ X cc nL own ret R0) {o n : Nat} {i : Int32} (hs : On Γ o (4, n)) (hi : inB i (vlen M o) = true) (d : decode cc pc = .ok (.baload, 1)) (q : Nat) (hq : pc + 1 = q) (K : G Γ X M cs sl L (.int (gI M o i.toNatClampNeg) :: st) q) : G Γ X M cs sl L (.int i :: .ref (wad Γ o) :: st) pc := by
  subst hq
  obtain ⟨p, e, R, s, m, args, below, meth, c, Q⟩ := X
  obtain ⟨hx, hb, hml, hown, hts, hW, hlk, hret, hR, hK, hSs, hG⟩ := C
  intro H locs ls a1 a2 a3 a4 a5
  exact va_bald hx hb hK a2 (px Γ o) 2 (wO_at hs) rfl (inB_in hi) d (K H locs ls a1 a2 a3 a4 a5)
theorem vlen_sI {M : Mem} {o k a : Nat} {v : Int32} : vlen (sI M o k v) a = vlen M a := rfl
theorem x_bastV (C : CX Γ X cc nL own ret R0) {o n : Nat} {i v : Int32} (hs : On Γ o (4, n)) (hi : inB i (vlen M o) = true) (d : decode cc pc = .ok (.bastore, 1)) (q : Nat) (hq : pc + 1 = q) (K : G Γ X (sI M o i.toNatClampNeg (vp_nar .byte v)) cs sl L st q) : G Γ X M cs sl L (.int v :: .int i :: .ref (wad Γ o) :: st) pc := by
  subst hq
  obtain ⟨p, e, R, s, m, args, below, meth, c, Q⟩ := X
  obtain ⟨hx, hb, hml, hown, hts, hW, hlk, hret, hR, hK, hSs, hG⟩ := C
  intro H locs ls a1 a2 a3 a4 a5
  refine va_bast hx hb hK a2 a3 a4 (px Γ o) 2 (wO_at hs) rfl (inB_in hi) d (fun H1 locs1 hP1 hD1 hS1 => ?_)
  have e1 : (wO Γ M).set (px Γ o) (wad Γ o, cE (wA Γ) (wad Γ) (sI M o i.toNatClampNeg (vp_nar .byte v)) o (4, n)) = wO Γ (sI M o i.toNatClampNeg (vp_nar .byte v)) := wO_set hs (fun a ha q => cE_sI ha q)
  have e2 : gI (sI M o i.toNatClampNeg (vp_nar .byte v)) o = upd (gI M o) i.toNatClampNeg (vp_nar .byte v) := by
    funext j
    simp only [gI_sI, upd, true_and]
  have e3 : cE (wA Γ) (wad Γ) (sI M o i.toNatClampNeg (vp_nar .byte v)) o (4, n) = (Sum.inl (wA Γ 2, vlen M o, Sum.inl (upd (gI M o) i.toNatClampNeg (vp_nar .byte v))) : va_E) := by
    show (Sum.inl (wA Γ 2, vlen M o, Sum.inl (gI (sI M o i.toNatClampNeg (vp_nar .byte v)) o)) : va_E) = _
    rw [e2]
  rw [← e3, e1] at hP1 hD1
  exact K H1 locs1 ls (hG.kw M _ (fun _ _ => rfl) a1) hP1 hD1 hS1 a5
/-- a row of ints of the memory becomes another -/
def sW (M : Mem) (b : Nat) (f : Nat → Int32) : Mem := (fun o k => if o = b then f k else M.1 o k, M.2.1, M.2.2)
theorem gI_sW (M : Mem) (b : Nat) (f : Nat → Int32) (a : Nat) : gI (sW M b f) a = if a = b then f else gI M a := by
  funext k
  show (if a = b then f k else M.1 a k) = _
  split <;> rfl
theorem cE_sW {dA : Nat → ClassId} {ad : Nat → Nat} {M : Mem} {b : Nat} {f : Nat → Int32} {a : Nat} (h : a ≠ b) (e : SE) : cE dA ad (sW M b f) a e = cE dA ad M a e := by
  have h1f : gI (sW M b f) a = gI M a := by rw [gI_sW, if_neg h]
  have h2f : gL (sW M b f) a = gL M a := rfl
  have h3f : gR (sW M b f) a = gR M a := rfl
  have h4 : ∀ j q, fVal ad (sW M b f) a j q = fVal ad M a j q := fun j q => by simp only [fVal, h1f, h2f, h3f]
  simp only [cE, vlen, fsO, h1f, h2f, h3f, h4]
/-- bytes of a constant text into a row -/
theorem x_copyT (C : CX Γ X cc nL own ret R0) (hN : HT Γ) {t b n : Nat} (ht : t < 21) {dp : Int32} {j : Nat} (hb9 : On Γ b (4, n)) (hj : dp = nI j ∧ j < 100000) (hfit : j + (WL.getD t []).length ≤ vlen M b) (ln : Gd (.methodLink own idx arraycopyName)) (hr : 2 ≤ R0.frames ∧ 60 ≤ R0.locals) (hw : (st.map fun v => v.category).sum ≤ 8) (d : decode cc pc = .ok (.invokestatic idx, 3)) (q : Nat) (hq : pc + 3 = q) (K : G Γ X (sW M b (fun k => if j ≤ k ∧ k < j + (WL.getD t []).length then nI ((WL.getD t []).getD (k - j) 0) else gI M b k)) cs sl L st q) : G Γ X M cs sl L (.int (slen t) :: .int dp :: .ref (wad Γ b) :: .int 0 :: .ref (wsv Γ t) :: st) pc := by
  subst hq
  obtain ⟨p, e, R, s, m, args, below, meth, c, Q⟩ := X
  obtain ⟨hx, hb, hml, hown, hts, hW, hlk, hret, rfl, hK, hSs, hG⟩ := C
  obtain ⟨rfl, hj2⟩ := hj
  intro H locs ls a1 a2 a3 a4 a5 T hT X9
  have hlen := wl_len t ht
  have e0 : (nI (WL.getD t []).length).toNatClampNeg = (WL.getD t []).length := nI_clamp (Nat.lt_trans hlen.2 (by decide))
  have ej : (nI j).toNatClampNeg = j := nI_clamp (Nat.lt_trans hj2 (by decide))
  have hS9 : va_S (fAg Γ) s.heap H locs := ss9 X9 hT a4 hSs
  refine vk_copyt hx hb a5.1.symm hown (hts _ ln) (hts _ ll_copy.1) (hts _ ll_copy.2.1) (hts _ ll_copy.2.2) hK a2 a3 hS9 (b0 := wsv Γ t) (n0 := (WL.getD t []).length) (f := fun j => ((WL.map (fun l => l.map nI)).getD t []).getD j 0) (by rw [← hlen.1]; exact ((strAt hN hW hSs).1 t ht).2.2.2) (px Γ b) 2 (wO_at hb9) rfl (by decide) (nI_pos (by omega)) (nI_pos (by have := hlen.2; omega)) (by rw [e0]; show (0 : Int32).toNatClampNeg + _ ≤ _; rw [sb_cl0]; omega) (by rw [e0, ej]; exact hfit) (fun i hi => ?_) (by omega) (by simp [nativeFrameWords]; omega) d (fun H1 locs1 hP1 hD1 hS1 => ?_) T hT X9
  · rw [e0] at hi
    show fits .byte (.int (((WL.map (fun l => l.map nI)).getD t []).getD ((0 : Int32).toNatClampNeg + i) 0)) = true
    rw [sb_cl0, Nat.zero_add, (wl_at t ht i hi).1]
    have key : ∀ c, c < 128 → fits .byte (.int (nI c)) = true := by decide +kernel
    exact key _ (wl_at t ht i hi).2
  · generalize hf : (fun k => if j ≤ k ∧ k < j + (WL.getD t []).length then nI ((WL.getD t []).getD (k - j) 0) else gI M b k) = f at K
    have e1 : (wO Γ M).set (px Γ b) (wad Γ b, cE (wA Γ) (wad Γ) (sW M b f) b (4, n)) = wO Γ (sW M b f) := wO_set hb9 (fun a ha q => cE_sW ha q)
    have e2 : gI (sW M b f) b = va_cpy (fun j => ((WL.map (fun l => l.map nI)).getD t []).getD j 0) (gI M b) (0 : Int32).toNatClampNeg (nI j).toNatClampNeg (nI (WL.getD t []).length).toNatClampNeg := by
      rw [gI_sW, if_pos rfl, ← hf, e0, ej, sb_cl0]
      funext k
      by_cases h : j ≤ k ∧ k < j + (WL.getD t []).length
      · rw [pk_cpy_in h.1 h.2, if_pos h, Nat.zero_add, (wl_at t ht (k - j) (by omega)).1]
      · rw [pk_cpy_out (by omega), if_neg h]
    have e3 : cE (wA Γ) (wad Γ) (sW M b f) b (4, n) = (Sum.inl (wA Γ 2, vlen M b, Sum.inl (va_cpy (fun j => ((WL.map (fun l => l.map nI)).getD t []).getD j 0) (gI M b) (0 : Int32).toNatClampNeg (nI j).toNatClampNeg (nI (WL.getD t []).length).toNatClampNeg)) : va_E) := by
      rw [← e2]; rfl
    rw [← e3, e1] at hP1 hD1
    refine K H1 locs1 ls (hG.kw M _ (fun _ _ => rfl) a1) hP1 hD1 ⟨Nat.le_trans hSs.1 hS1.1, fun q h1 h2 => ?_, hS1.2.2⟩ a5
    · rw [hS1.2.1 q (Nat.lt_of_lt_of_le h1 hSs.1) h2, hSs.2.1 q h1 h2]
end SbRows
/-! inherited methods, and those of the class above -/
def MU (own C9 owner : String) (idx : Nat) (x y : MethodName) (bytes : ByteArray) (maxL : Nat) (rt : Option FieldType) (n : Nat) : Prop := Gd (.initialized y.cls) ∧ Gd (.code y bytes maxL rt) ∧ (owner ≠ "java/lang/invoke/MethodHandle" ∧ owner ≠ "java/lang/invoke/VarHandle") ∧ (parseMethodDescriptor x.desc).map (fun d => d.parameters.length) = some n ∧ Gd (.methodLink own idx x) ∧ Gd (.sameMethod x.cls owner x.name x.desc) ∧
  (Gd (.instanceMethod ⟨owner, x.name, x.desc⟩) ∧ ∃ b m r, Gd (.code ⟨owner, x.name, x.desc⟩ b m r)) ∧ (∀ (s : State) (args : Array Value), (∀ w, Gd w → w.before args s = true) → (Cond.selects C9 x y).before args s = true) ∧ Gd (.instanceMethod y)
def MSU (own : String) (idx : Nat) (y : MethodName) (bytes : ByteArray) (maxL : Nat) (rt : Option FieldType) (n : Nat) : Prop := Gd (.initialized y.cls) ∧ Gd (.code y bytes maxL rt) ∧ Gd (.methodLink own idx y) ∧ Gd (.sameMethod y.cls y.cls y.name y.desc) ∧ Gd (.superclass own y.cls) ∧ Gd (.instanceMethod y) ∧ y.name ≠ "<init>" ∧ (parseMethodDescriptor y.desc).map (fun d => d.parameters.length) = some n
section SbCalls
variable {Γ : WC} {X : MX} {M M1 : Mem} {cs sl : Nat} {L : List (Option Value)} {st stk As : List Value} {pc idx n o maxL : Nat} {cc bytes : ByteArray} {nL : Nat} {own C9 owner : String} {ret rt : Option FieldType} {R0 rm : Room} {x y : MethodName}
theorem cw_U {s9 : State} {args9 : Array Value} (hW : (wU Γ).WarmedH s9.vm) (hts : ∀ w, Gd w → w.before args9 s9 = true) (hG : HG Γ) (mw : MU own C9 owner idx x y bytes maxL rt n) (hr : RO rm R0 maxL cs sl) : va_CU R0 s9 args9 own C9 owner idx x y bytes maxL rt [Cond.code y bytes maxL rt] rm rm.cells rm.slots n := by
  obtain ⟨m1, m2, m3, m4, m5, m6, ⟨m7, b, mm, r, m8⟩, m9, m10⟩ := mw
  exact ⟨⟨rfl, rfl, hr.1, hr.2.1, fun w hw a U hU => by
    rw [List.mem_singleton.mp hw]
    exact hG.1 _ m2 _ _ (State.WarmedH.trans hW hU), List.mem_singleton.mpr rfl⟩, hts _ m2, hts _ m1, m3, fun sig h => by
      rw [h] at m4
      exact (Option.some.inj m4).symm, hts _ m5, hts _ m6, va_Decl.of (hts _ m7) (hts _ m8), m9 _ _ hts, hts _ m10⟩
theorem x_cU {v : Option Value} (C : CX Γ X cc nL own ret R0) (hM : Ct Γ y bytes maxL rt rm (.ref (wad Γ o) :: As) M v M1) (mw : MU own C9 owner idx x y bytes maxL rt n) (ho : RC Γ o C9) (hr : RO rm R0 maxL cs sl) (hn : As.length = n) (hst : stk = As.reverse ++ .ref (wad Γ o) :: st) (hw : (st.map fun v => v.category).sum ≤ 8) (d : decode cc pc = .ok (.invokevirtual idx, 3)) (q : Nat) (hq : pc + 3 = q) (cs1 sl1 : Nat) (ec : cs + rm.cells = cs1) (es : sl + rm.slots = sl1) (K : G Γ X M1 cs1 sl1 L (v.toList ++ st) q) : G Γ X M cs sl L stk pc := by
  obtain ⟨p, e, R, s, m, args, below, meth, c, Q⟩ := X
  obtain ⟨hx, hb, hml, hown, hts, hW, hlk, hret, rfl, hK, hSs, hG⟩ := C
  subst hst; subst hml; subst hq; subst ec; subst es
  intro H locs ls a1 a2 a3 a4 a5
  exact callN (va_runU (Ts := []) (own := own) ⟨hx, hb, rfl, hown, fun _ h => nomatch h⟩ hM (cw_U hW hts hG mw hr) ⟨WP.blind, ho.recv hK a2, fun U hU hU2 => ⟨rfl, a1, State.WarmedH.trans hW hU2, by rw [hU]; exact S_nil a4, by rw [hU]; exact a2, a3⟩⟩ rfl hn a5.1 rfl (lv_room hw) d ⟨hr.2.2.1, hr.2.2.2⟩) a4 (fun H1 locs1 b1 b2 b3 b4 => K H1 locs1 ls b1 b2 b3 b4 a5)
end SbCalls
section SbCallsD
variable {Γ : WC} {K9 K1 : Mem → Prop} {X : MX} {M M1 : Mem} {cs sl : Nat} {pc : Nat} {cc bytes : ByteArray} {nL : Nat} {own C9 owner : String} {ret rt : Option FieldType} {R0 rm : Room} {ad0 ad : Nat → Nat} {l0 l l1 : List Nat} {n idx o k maxL cs1 sl1 : Nat} {L : List (Option SV)} {st As : List SV} {x y : MethodName} {v : Option SV}
theorem d_cU (C : CX Γ X cc nL own ret R0) (hM : CtD Γ K9 K1 y bytes maxL rt rm l l1 (.inr o :: As) M v M1) (mw : MU own C9 owner idx x y bytes maxL rt k) (ho : RC (gc Γ K9 ad l) o C9) (hr : RO rm R0 maxL cs sl) (hn : As.length = k) (hag : agr l0 ad0 ad) (h0 : ∀ o, o ∈ l0 → o ∈ l) {L1 : List (Option Value)} {st1 : List Value} (hL1 : L1 = evL ad L) (hs1 : st1 = (evS ad As).reverse ++ .ref (ad o) :: evS ad st) (hL : svL l L) (hs : svS l st) (hw : ((evS ad st).map fun v => v.category).sum ≤ 8) (d : decode cc pc = .ok (.invokevirtual idx, 3)) (q : Nat) (hq : pc + 3 = q) (ec : cs + rm.cells = cs1) (es : sl + rm.slots = sl1) (K : KD Γ K1 ad0 l0 X l1 M1 cs1 sl1 L v st q) : G (gc Γ K9 ad l) X M cs sl L1 st1 pc := by
  have K2 := fun {ad1} => K.go (ad := ad) hag h0 hL hs (ad1 := ad1)
  obtain ⟨p, e, R, s, m, args, below, meth, c, Q⟩ := X
  obtain ⟨hx, hb, hml, hown, hts, hW, hlk, hret, rfl, hK, hSs, hG⟩ := C
  subst hL1; subst hs1; subst hml; subst hq; subst ec; subst es
  intro H locs ls a1 a2 a3 a4 a5
  exact callD (va_runU (Ts := []) (own := own) ⟨hx, hb, rfl, hown, fun _ h => nomatch h⟩ (hM ad) (cw_U hW hts hG mw hr) ⟨WP.blind (Γ := gc Γ K9 ad l), ho.recv hK a2, fun U hU hU2 => ⟨rfl, a1, State.WarmedH.trans hW hU2, by rw [hU]; exact S_nil a4, by rw [hU]; exact a2, a3⟩⟩ rfl (evS_len.trans hn) a5.1 rfl (lv_room hw) d ⟨hr.2.2.1, hr.2.2.2⟩) a4 (fun H1 locs1 ad1 hg hK1 b1 b2 b3 => K2 hg hK1 H1 locs1 ls hK1 b1 b2 b3 a5)
theorem d_cSU {ci nn : Nat} (C : CX Γ X cc nL own ret R0) (hM : CtD Γ K9 K1 y bytes maxL rt rm l l1 (.inr o :: As) M v M1) (mw : MSU own idx y bytes maxL rt k) (ho : On (gc Γ K9 ad l) o (ci + 6, nn)) {q9 : vw_C} (hq9 : vwCl[ci]? = some q9) (hr : RO rm R0 maxL cs sl) (hn : As.length = k) (hag : agr l0 ad0 ad) (h0 : ∀ o, o ∈ l0 → o ∈ l) {L1 : List (Option Value)} {st1 : List Value} (hL1 : L1 = evL ad L) (hs1 : st1 = (evS ad As).reverse ++ .ref (ad o) :: evS ad st) (hL : svL l L) (hs : svS l st) (hw : ((evS ad st).map fun v => v.category).sum ≤ 8) (d : decode cc pc = .ok (.invokespecial idx, 3)) (q : Nat) (hq : pc + 3 = q) (ec : cs + rm.cells = cs1) (es : sl + rm.slots = sl1) (K : KD Γ K1 ad0 l0 X l1 M1 cs1 sl1 L v st q) : G (gc Γ K9 ad l) X M cs sl L1 st1 pc := by
  have K2 := fun {ad1} => K.go (ad := ad) hag h0 hL hs (ad1 := ad1)
  obtain ⟨p, e, R, s, m, args, below, meth, c, Q⟩ := X
  obtain ⟨hx, hb, hml, hown, hts, hW, hlk, hret, rfl, hK, hSs, hG⟩ := C
  obtain ⟨m1, m2, m3, m4, m5, m6, m7, m8⟩ := mw
  subst hL1; subst hs1; subst hml; subst hq; subst ec; subst es
  intro H locs ls a1 a2 a3 a4 a5
  have hcw : va_CS R s args own idx y bytes maxL rt [Cond.code y bytes maxL rt] rm rm.cells rm.slots k := ⟨⟨rfl, rfl, hr.1, hr.2.1, fun w hw a U hU => by
    rw [List.mem_singleton.mp hw]
    exact hG.1 _ m2 _ _ (State.WarmedH.trans hW hU), List.mem_singleton.mpr rfl⟩, hts _ m3, hts _ m4, hts _ m5, hts _ m6, hts _ m1, hts _ m2, m7, fun sig h => by
      rw [h] at m8
      exact (Option.some.inj m8).symm⟩
  exact callD (va_runSU (Ts := []) (own := own) (hK.1 ci q9 hq9).2 ⟨hx, hb, rfl, hown, fun _ h => nomatch h⟩ (hM ad) hcw ⟨WP.blind (Γ := gc Γ K9 ad l), (rc_gc ho hq9).recv hK a2, fun U hU hU2 => ⟨rfl, a1, State.WarmedH.trans hW hU2, by rw [hU]; exact S_nil a4, by rw [hU]; exact a2, a3⟩⟩ rfl (evS_len.trans hn) a5.1 rfl (lv_room hw) d ⟨hr.2.2.1, hr.2.2.2⟩) a4 (fun H1 locs1 ad1 hg hK1 b1 b2 b3 => K2 hg hK1 H1 locs1 ls hK1 b1 b2 b3 a5)
end SbCallsD
