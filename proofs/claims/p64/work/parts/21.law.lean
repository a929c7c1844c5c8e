/-! the law's own objects: what its contexts say -/
def shL (o : Nat) : Option SE := if o = 108 ∨ o = 109 ∨ (110 ≤ o ∧ o < 210) then SHF o else none
def srV (o k : Nat) : Option Nat := match o, k with
  | 108, 0 => some 999
  | 109, 0 => some 210
  | 109, 6 => some 110
  | 109, 7 => some 111
  | 109, 8 => some 112
  | 109, 9 => some 119
  | 109, 10 => some 126
  | 109, 11 => some 151
  | 109, 12 => some 176
  | 109, 13 => some 201
  | 109, 15 => some 208
  | 109, 16 => some 209
  | _, _ => none
def HLa (Γ : WC) (sh : Nat → Option SE) : Prop := HT Γ ∧ (∀ o e, shL o = some e → On Γ o e) ∧ (∀ o e, sh o = some e → On Γ o e) ∧ ∀ o k j, srV o k = some j → ∀ M, wK Γ M → gR M o k = some j
def HX (Γ : WC) (b L : Nat) (xs : Nat → Int32) : Prop := wad Γ 999 = b ∧ va_X b L xs (wU Γ) (wU Γ).heap ∧ b < (wU Γ).heap.size
def SRV (M : Mem) : Prop := (∀ o k j, srV o k = some j → gR M o k = some j) ∧ gR M 210 0 = some 211 ∧ RR M
theorem krV : KR SRV := fun M M' h hM => ⟨fun o k j hj => by rw [h]; exact hM.1 o k j hj, by rw [h]; exact hM.2.1, ⟨fun o k hk => hM.2.2.1 o k (by rw [← h]; exact hk), fun o k hk => hM.2.2.2 o k (by rw [← h]; exact hk)⟩⟩
theorem lL_mem {o : Nat} (h : o = 108 ∨ o = 109 ∨ (110 ≤ o ∧ o < 210)) : o ∈ lL := by
  rcases h with rfl | rfl | h
  · decide +kernel
  · decide +kernel
  · exact List.mem_append_right _ (List.mem_range'_1.mpr ⟨h.1, by omega⟩)
theorem lbV : LB SRV lL := ⟨⟨⟨by decide +kernel, by decide +kernel, lL_nodup⟩, by decide +kernel⟩, krV, fun _ h => h.2⟩
theorem shL_at {o : Nat} {e : SE} (h : shL o = some e) : (o = 108 ∨ o = 109 ∨ (110 ≤ o ∧ o < 210)) ∧ SHF o = some e := by
  unfold shL at h
  split at h
  · exact ⟨‹_›, h⟩
  · exact nomatch h
theorem hV {Γ : WC} (hT : HT Γ) (ad : Nat → Nat) : HLa (gc Γ SRV ad lL) shL := ⟨hT.gc krV ad lL, fun o e h => og lL_nodup (lL_mem (shL_at h).1) (shL_at h).2, fun o e h => og lL_nodup (lL_mem (shL_at h).1) (shL_at h).2, fun o k j h M hM => hM.1 o k j h⟩
/-- contracts of the law's methods: the script is the object 999 -/
def CtX (Γ : WC) (b : Nat) (K K1 : Mem → Prop) (y : MethodName) (cc : ByteArray) (nL : Nat) (ret : Option FieldType) (rm : Room) (l l1 : List Nat) (As : List SV) (M : Mem) (v : Option SV) (M1 : Mem) : Prop := ∀ ad, ad 999 = b → Met (wl Γ) y [Cond.code y cc nL ret] rm (va_Pc (evS ad As) (WP (gc Γ K ad l) M)) (QcD Γ K1 ad l l1 v M1) rm.cells rm.slots (fAg Γ)
theorem mkX {Γ : WC} {b : Nat} {K K1 : Mem → Prop} {y : MethodName} {own : String} {cc : ByteArray} {nL : Nat} {ret : Option FieldType} {rm : Room} {l l1 : List Nat} {As : List SV} {M M1 : Mem} {v : Option SV} (hG : HG Γ) (ho : y.cls = own) (hn : plainName y.cls = true) (hl : ∀ ad, (lg_sl (evS ad As)).length ≤ nL)
    (body : ∀ ad X, ad 999 = b → CX Γ X cc nL own ret rm → (y.name = "<init>" → XI X) → EndD Γ K1 X ad l l1 v M1 rm.cells rm.slots → G (gc Γ K ad l) X M 0 0 (lE (evS ad As)) [] 0) : CtX Γ b K K1 y cc nL ret rm l l1 As M v M1 := by
  intro ad hb9
  refine Met.ofW (cc := cc) (maxL := nL) (ret := ret) hn rfl ?_
  intro p e s m args below meth c s₁ B hml hv
  obtain ⟨rfl, hK, hW, hS, hP, hD⟩ := hv
  subst ho
  have hown : s.vm.findClass y.cls = some m.cls := findClass_of_methodNamed B.named
  have hb := body ad (p, e, rm, s, m, (evS ad As).toArray, below, meth, c, MQ below (QcD Γ K1 ad l l1 v M1) (evS ad As).toArray s rm.cells rm.slots (fAg Γ)) hb9
    ⟨B.exec, B.bytes, hml, hown, fun w hw => hG.1 w hw _ _ hW, hW, B.notSynchronized, B.returns, rfl, mkCX hG hW, hS, hG⟩ (fun hi => (name_of_methodNamed B.named B.method).1.trans hi) rfl
  have hle := lv_entry (evS ad As) (hl ad)
  rw [lg_entry_eq]
  have h2 := hb s.heap [] _ hK hP hD hS (by rw [hml, lE_args]; exact hle)
  exact h2
theorem agr.b {l : List Nat} {ad0 ad : Nat → Nat} {b : Nat} (h : agr l ad0 ad) (h0 : ad0 999 = b) : ad 999 = b := (h 999 (Or.inr (Eq.refl _)) (by decide)).trans h0
section LawX
variable {Γ : WC} {K9 : Mem → Prop} {X : MX} {M M1 : Mem} {cs sl : Nat} {pc : Nat} {cc : ByteArray} {nL : Nat} {own : String} {ret : Option FieldType} {R0 : Room} {ad0 ad : Nat → Nat} {l0 l : List Nat} {n : Nat} {L : List (Option SV)} {st : List SV}
variable {K1 : Mem → Prop} {y x : MethodName} {bytes : ByteArray} {maxL idx o k cs1 sl1 b : Nat} {rm : Room} {As : List SV} {l1 : List Nat} {v : Option SV} {rt : Option FieldType}
theorem d_cVX (C : CX Γ X cc nL own ret R0) (hM : CtX Γ b K9 K1 y bytes maxL rt rm l l1 (.inr o :: As) M v M1) (hb9 : ad 999 = b) (mw : MW y bytes maxL rt k) (ln : Gd (.methodLink own idx y)) (mi : Gd (.instanceMethod y) ∧ Gd (.selects y.cls y y)) (ho : RC (gc Γ K9 ad l) o y.cls) (hr : RO rm R0 maxL cs sl) (hn : As.length = k) (hag : agr l0 ad0 ad) (h0 : ∀ o, o ∈ l0 → o ∈ l) {L1 : List (Option Value)} {st1 : List Value} (hL1 : L1 = evL ad L) (hs1 : st1 = (evS ad As).reverse ++ .ref (ad o) :: evS ad st) (hL : svL l L) (hs : svS l st) (hw : ((evS ad st).map fun v => v.category).sum ≤ 8) (d : decode cc pc = .ok (.invokevirtual idx, 3)) (q : Nat) (hq : pc + 3 = q) (ec : cs + rm.cells = cs1) (es : sl + rm.slots = sl1) (K : KD Γ K1 ad0 l0 X l1 M1 cs1 sl1 L v st q) : G (gc Γ K9 ad l) X M cs sl L1 st1 pc := by
  have K2 := fun {ad1} => K.go (ad := ad) hag h0 hL hs (ad1 := ad1)
  obtain ⟨p, e, R, s, m, args, below, meth, c, Q⟩ := X
  obtain ⟨hx, hb, hml, hown, hts, hW, hlk, hret, rfl, hK, hSs, hG⟩ := C
  subst hL1; subst hs1; subst hml; subst hq; subst ec; subst es
  intro H locs ls a1 a2 a3 a4 a5
  exact callD (va_runV (Ts := []) (own := own) ⟨hx, hb, rfl, hown, fun _ h => nomatch h⟩ (hM ad hb9) ⟨cw_B hW hts hG mw hr ln, hts _ mi.1, hts _ mi.2⟩ ⟨WP.blind (Γ := gc Γ K9 ad l), ho.recv hK a2, fun U hU hU2 => ⟨rfl, a1, State.WarmedH.trans hW hU2, by rw [hU]; exact S_nil a4, by rw [hU]; exact a2, a3⟩⟩ rfl (evS_len.trans hn) a5.1 rfl (lv_room hw) d ⟨hr.2.2.1, hr.2.2.2⟩) a4 (fun H1 locs1 ad1 hg hK1 b1 b2 b3 => K2 hg hK1 H1 locs1 ls hK1 b1 b2 b3 a5)
theorem d_cIX (C : CX Γ X cc nL own ret R0) (hM : CtX Γ b K9 K1 y bytes maxL none rm l l1 (.inr o :: As) M v M1) (hb9 : ad 999 = b) (mw : MW y bytes maxL none k) (ln : Gd (.methodLink own idx y)) (mi : Gd (.instanceMethod y) ∧ y.name = "<init>") (hr : RO rm R0 maxL cs sl) (hn : As.length = k) (hag : agr l0 ad0 ad) (h0 : ∀ o, o ∈ l0 → o ∈ l) {L1 : List (Option Value)} {st1 : List Value} (hL1 : L1 = evL ad L) (hs1 : st1 = (evS ad As).reverse ++ .ref (ad o) :: evS ad st) (hL : svL l L) (hs : svS l st) (hw : ((evS ad st).map fun v => v.category).sum ≤ 8) (d : decode cc pc = .ok (.invokespecial idx, 3)) (q : Nat) (hq : pc + 3 = q) (ec : cs + rm.cells = cs1) (es : sl + rm.slots = sl1) (K : KD Γ K1 ad0 l0 X l1 M1 cs1 sl1 L v st q) : G (gc Γ K9 ad l) X M cs sl L1 st1 pc := by
  have K2 := fun {ad1} => K.go (ad := ad) hag h0 hL hs (ad1 := ad1)
  obtain ⟨p, e, R, s, m, args, below, meth, c, Q⟩ := X
  obtain ⟨hx, hb, hml, hown, hts, hW, hlk, hret, rfl, hK, hSs, hG⟩ := C
  subst hL1; subst hs1; subst hml; subst hq; subst ec; subst es
  intro H locs ls a1 a2 a3 a4 a5
  exact callD (va_runI (Ts := []) (own := own) ⟨hx, hb, rfl, hown, fun _ h => nomatch h⟩ (hM ad hb9) ⟨cw_B hW hts hG mw hr ln, mi.2, hts _ mi.1⟩ ⟨WP.blind (Γ := gc Γ K9 ad l), fun U hU hU2 => ⟨rfl, a1, State.WarmedH.trans hW hU2, by rw [hU]; exact S_nil a4, by rw [hU]; exact a2, a3⟩⟩ rfl (evS_len.trans hn) a5.1 rfl (lv_room hw) d ⟨hr.2.2.1, hr.2.2.2⟩) a4 (fun H1 locs1 ad1 hg hK1 b1 b2 b3 => K2 hg hK1 H1 locs1 ls hK1 b1 b2 b3 a5)
end LawX
section LawS
variable {Γ : WC} {X : MX} {M : Mem} {cs sl : Nat} {L : List (Option Value)} {st : List Value} {pc : Nat} {cc : ByteArray} {nL : Nat} {own : String} {ret : Option FieldType} {R0 : Room} {β : Type} {rM : β}
theorem G.wide {cs1 sl1 : Nat} (h1 : cs ≤ cs1) (h2 : sl ≤ sl1) (k : G Γ X M cs1 sl1 L st pc) : G Γ X M cs sl L st pc := by
  obtain ⟨p, e, R, s, m, args, below, meth, c, Q⟩ := X
  intro H locs ls a1 a2 a3 a4 a5
  exact W.widen h1 h2 (k H locs ls a1 a2 a3 a4 a5)
theorem x_sld {b LL : Nat} {xs : Nat → Int32} {i : Int32} (C : CX Γ X cc nL own ret R0) (hX : HX Γ b LL xs) (hi : inB i LL = true) (d : decode cc pc = .ok (.iaload, 1)) (q : Nat) (hq : pc + 1 = q) (K : G Γ X M cs sl L (.int (xs i.toNatClampNeg) :: st) q) : G Γ X M cs sl L (.int i :: .ref (wad Γ 999) :: st) pc := by
  subst hq
  obtain ⟨p, e, R, s, m, args, below, meth, c, Q⟩ := X
  obtain ⟨hx, hb, hml, hown, hts, hW, hlk, hret, hR, hK, hSs, hG⟩ := C
  intro H locs ls a1 a2 a3 a4 a5
  rw [hX.1]
  exact va_sld hx hb (hX.2.1.moved hW.alike) hX.2.2 (Nat.not_le_of_lt hX.2.2) a4 (inB_in hi) d (K H locs ls a1 a2 a3 a4 a5)
theorem x_slenX {b LL : Nat} {xs : Nat → Int32} (C : CX Γ X cc nL own ret R0) (hX : HX Γ b LL xs) (d : decode cc pc = .ok (.arraylength, 1)) (q : Nat) (hq : pc + 1 = q) (K : G Γ X M cs sl L (.int (nI LL) :: st) q) : G Γ X M cs sl L (.ref (wad Γ 999) :: st) pc := by
  subst hq
  obtain ⟨p, e, R, s, m, args, below, meth, c, Q⟩ := X
  obtain ⟨hx, hb, hml, hown, hts, hW, hlk, hret, hR, hK, hSs, hG⟩ := C
  intro H locs ls a1 a2 a3 a4 a5
  rw [hX.1]
  exact va_slen hx hb (hX.2.1.moved hW.alike) hX.2.2 (Nat.not_le_of_lt hX.2.2) a4 d (K H locs ls a1 a2 a3 a4 a5)
def aabs (x : Int32) : Int32 := if 0 ≤ x then x else 0 - x
theorem x_absI {idx : Nat} {x : Int32} (C : CX Γ X cc nL own ret R0) (ln : Gd (.methodLink own idx yJ9_abs_0f7a4)) (hr : 2 ≤ R0.frames ∧ 60 ≤ R0.locals ∧ cs ≤ R0.cells ∧ sl ≤ R0.slots) (hw : (st.map fun v => v.category).sum ≤ 8) (d : decode cc pc = .ok (.invokestatic idx, 3)) (q : Nat) (hq : pc + 3 = q) (K : G Γ X M cs sl L (.int (aabs x) :: st) q) : G Γ X M cs sl L (.int x :: st) pc := by
  subst hq
  obtain ⟨p, e, R, s, m, args, below, meth, c, Q⟩ := X
  obtain ⟨hx, hb, hml, hown, hts, hW, hlk, hret, rfl, hK, hSs, hG⟩ := C
  intro H locs ls a1 a2 a3 a4 a5
  exact va_mabs hx hb a5.1.symm hown (hts _ ln) (hts _ ll_absI.1) (hts _ ll_absI.2.1) (hts _ ll_absI.2.2) (by omega) (by omega) hr.2.2.1 hr.2.2.2 d (K H locs ls a1 a2 a3 a4 a5)
theorem x_irem2 {x y : Int32} (hy : nzI y (some ()) = some ()) (C : CX Γ X cc nL own ret R0) (d : decode cc pc = .ok (.irem, 1)) (q : Nat) (hq : pc + 1 = q) (K : G Γ X M cs sl L (.int (x - x / y * y) :: st) q) : G Γ X M cs sl L (.int y :: .int x :: st) pc := x_irem C d q hq hy (fun _ => K)
end LawS
section EndV
variable {Γ : WC} {X : MX} {M : Mem} {cs sl mc ms : Nat} {L : List (Option Value)} {pc : Nat} {cc : ByteArray} {nL : Nat} {own : String} {R0 : Room} {K9 : Mem → Prop} {ad0 ad : Nat → Nat} {l : List Nat}
theorem dv_vret {rM : Unit × Mem} (C : CX Γ X cc nL own none R0) (E : EndD Γ K9 X ad0 l l none rM.2 mc ms) (hag : agr l ad0 ad) (hf : some ((), M) = some rM) (hc : cs ≤ mc) (hs : sl ≤ ms) (d : decode cc pc = .ok (.return_, 1)) : G (gc Γ K9 ad l) X M cs sl L [] pc := by
  cases hf
  exact d_vret C E hag (fun h => h) hc hs d
end EndV
/-- bytes at the builder's end, where there is room -/
noncomputable def apK {β : Type} (M : Mem) (bs : List Nat) (k : Mem → Option β) : Option β := @ite _ (∃ n m, SBM M n m ∧ n + bs.length ≤ 1100) (Classical.propDecidable _) (k (apM M bs)) none
noncomputable def apI {β : Type} (M : Mem) (v : Int32) (k : Mem → Option β) : Option β := @ite _ (¬ v < 0 ∧ v.toNatClampNeg < 100000 ∧ ∃ n m, SBM M n m ∧ n + (dgs v.toNatClampNeg).length ≤ 1100) (Classical.propDecidable _) (k (apM M (dgs v.toNatClampNeg))) none
theorem apI_inv {β : Type} {M : Mem} {v : Int32} {k : Mem → Option β} {r : β} (h : apI M v k = some r) : ∃ w, v = nI w ∧ w < 100000 ∧ (∃ n m, SBM M n m ∧ n + (dgs w).length ≤ 1100) ∧ k (apM M (dgs w)) = some r := by
  obtain ⟨⟨h1, h2, h3⟩, h⟩ := if_some h
  obtain ⟨w, hw, rfl⟩ := nI_of h1
  rw [nI_clamp hw] at h2 h3 h
  exact ⟨w, rfl, h2, h3, h⟩
/-! the draws -/
def nxM (M : Mem) : Mem := sI M 108 1 (gI M 108 1 + 1)
def nxV (LX : Nat) (xs : Nat → Int32) (M : Mem) : Int32 := if nI LX ≤ gI M 108 1 then 0 else xs (gI M 108 1).toNatClampNeg &&& 2147483647
def f_X13_next (LX : Nat) (xs : Nat → Int32) (M : Mem) (p0 p1 : Int32) : Option (Int32 × Mem) := if ¬ gI M 108 1 < 0 ∧ nzI (p1 - p0 + 1) (some ()) = some () ∧ LX < 2147483647 then some (p0 + (nxV LX xs M - nxV LX xs M / (p1 - p0 + 1) * (p1 - p0 + 1)), nxM M) else none
