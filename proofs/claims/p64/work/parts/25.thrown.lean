/-! the law's own methods with handlers -/
def okD {β : Type} (r : UInt64) (k : Option β) : Option β := if r &&& 0x7fffffffffffffff ≤ 0x7ff0000000000000 then k else none
def NC (Γ : WC) : Prop := ∀ a b, a < 3 → b < 3 → a ≠ b → va_Nc (xN a) (xN b) (wU Γ)
def XT (X : MX) (hh : List (Nat × Nat × Nat × Nat)) : Prop := match X with
  | (_, _, _, _, _, _, _, _, c, _) => c.exceptionTable.toList = tableOf hh
def CtW (Γ : WC) (y : MethodName) (cc : ByteArray) (nL : Nat) (ret : Option FieldType) (hh : List (Nat × Nat × Nat × Nat)) (rm : Room) (As : List Value) (M : Mem) (v : Option Value) (M' : Mem) : Prop :=
  Met (wl Γ) y [Cond.codeWith y cc nL ret hh] rm (va_Pc As (WP Γ M)) (fun _ _ o t => o = .returned v ∧ WP Γ M' t) rm.cells rm.slots (fAg Γ)
theorem mkW {Γ : WC} {y : MethodName} {own : String} {cc : ByteArray} {nL : Nat} {ret : Option FieldType} {hh : List (Nat × Nat × Nat × Nat)} {rm : Room} {As : List Value} {M : Mem} {v : Option Value} {M' : Mem} (hG : HG Γ) (ho : y.cls = own) (hn : plainName y.cls = true) (hl : (lg_sl As).length ≤ nL)
    (body : ∀ X, CX Γ X cc nL own ret rm → XT X hh → EndN Γ X v M' rm.cells rm.slots → G Γ X M 0 0 (lE As) [] 0) : CtW Γ y cc nL ret hh rm As M v M' := by
  refine va_MetW (cc := cc) (maxL := nL) (ret := ret) (hh := hh) hn rfl ?_
  intro p e s m args below meth c s₁ B hml hv
  obtain ⟨rfl, hK, hW, hS, hP, hD⟩ := hv
  subst ho
  have hown : s.vm.findClass y.cls = some m.cls := findClass_of_methodNamed B.named
  have hts := atoms_spec (ws := [Cond.codeWith y cc nL ret hh]) B.pre
  have hb := body (p, e, rm, s, m, As.toArray, below, meth, c, MQ below (fun _ _ o t => o = .returned v ∧ WP Γ M' t) As.toArray s rm.cells rm.slots (fAg Γ))
    ⟨B.exec, B.bytes, hml, hown, fun w hw => hG.1 w hw _ _ hW, hW, B.notSynchronized, B.returns, rfl, mkCX hG hW, hS, hG⟩ (vx_table (x := y) B (hts _ List.mem_cons_self)) rfl
  have hle := lv_entry As hl
  rw [lg_entry_eq]
  have h2 := hb s.heap [] _ hK hP hD hS (by rw [hml, lE_args]; exact hle)
  exact h2
section Wr
variable {Γ : WC} {X : MX} {M M1 : Mem} {cs sl : Nat} {L : List (Option Value)} {st stk As : List Value} {pc idx n maxL : Nat} {cc bytes : ByteArray} {nL : Nat} {own : String} {ret rt : Option FieldType} {R0 rm : Room} {y : MethodName} {hh : List (Nat × Nat × Nat × Nat)}
theorem x_catch {n9 : Nat} (C : CX Γ X cc nL own ret R0) (hC : NC Γ) (hT : XT X hh) (pre : List ExceptionTableEntry) (x : ExceptionTableEntry) (suf : List ExceptionTableEntry) (hs : tableOf hh = pre ++ x :: suf) (hp : ∀ z ∈ pre, z.catchType ≠ 0 ∧ ∃ k, k < 3 ∧ k ≠ n9 ∧ Gd (.classLink own z.catchType (xN k))) (hn : n9 < 3) (hcov : covers x pc = true) (h0 : x.catchType ≠ 0) (lk : Gd (.classLink own x.catchType (xN n9))) (ck : Gd (.castable (xN n9) (xN n9))) (K : ∀ qa, G Γ X M cs sl L [.ref qa] x.handlerPc) : GX Γ X M cs sl L st pc n9 := by
  obtain ⟨p, e, R, s, m, args, below, meth, c, Q⟩ := X
  obtain ⟨hx, hb, hml, hown, hts, hW, hlk, hret, rfl, hK, hSs, hG⟩ := C
  intro H locs ls q ce a1 a2 a3 a4 a5 b1 b2 b3
  refine vx_catch hown pre x suf (hs ▸ hT) (fun z hz => ?_) hcov h0 (hts _ lk) (hts _ ck) b1 b2 b3 (K q H locs ls a1 a2 a3 a4 a5)
  obtain ⟨z1, k, k1, k2, k3⟩ := hp z hz
  exact Or.inr ⟨z1, _, hts _ k3, va_Nc.moved hW.alike (hC _ _ hn k1 (Ne.symm k2))⟩
def MWW (y : MethodName) (bytes : ByteArray) (maxL : Nat) (rt : Option FieldType) (hh : List (Nat × Nat × Nat × Nat)) (n : Nat) : Prop := Gd (.initialized y.cls) ∧ Gd (.codeWith y bytes maxL rt hh) ∧ (y.cls ≠ "java/lang/invoke/MethodHandle" ∧ y.cls ≠ "java/lang/invoke/VarHandle") ∧ (parseMethodDescriptor y.desc).map (fun d => d.parameters.length) = some n ∧ Gd (.static y)
theorem x_cW {x : Int32} (C : CX Γ X cc nL own ret R0) (hM : CtW Γ y bytes maxL rt hh rm As M (some (.int x)) M1) (mw : MWW y bytes maxL rt hh n) (ln : Gd (.methodLink own idx y)) (hr : RO rm R0 maxL cs sl) (hn : As.length = n) (hst : stk = As.reverse ++ st) (hw : (st.map fun v => v.category).sum ≤ 8) (d : decode cc pc = .ok (.invokestatic idx, 3)) (q : Nat) (hq : pc + 3 = q) (cs1 sl1 : Nat) (ec : cs + rm.cells = cs1) (es : sl + rm.slots = sl1) (K : G Γ X M1 cs1 sl1 L (.int x :: st) q) : G Γ X M cs sl L stk pc := by
  obtain ⟨p, e, R, s, m, args, below, meth, c, Q⟩ := X
  obtain ⟨hx, hb, hml, hown, hts, hW, hlk, hret, rfl, hK, hSs, hG⟩ := C
  subst hst; subst hml; subst hq; subst ec; subst es
  intro H locs ls a1 a2 a3 a4 a5
  have hcw : vx_CSW R s args own idx y bytes maxL rt hh [Cond.codeWith y bytes maxL rt hh] rm rm.cells rm.slots n := ⟨⟨rfl, rfl, hr.1, hr.2.1, fun w hw a U hU => by
    rw [List.mem_singleton.mp hw]
    exact hG.1 _ mw.2.1 _ _ (State.WarmedH.trans hW hU), List.mem_singleton.mpr rfl⟩, hts _ mw.2.1, hts _ mw.1, mw.2.2.1, fun sig h => by
    have h2 := mw.2.2.2.1
    rw [h] at h2
    exact (Option.some.inj h2).symm, hts _ ln, hts _ mw.2.2.2.2⟩
  exact callN (vx_runSW (Ts := []) (own := own) ⟨hx, hb, rfl, hown, fun _ h => nomatch h⟩ hM hcw ⟨WP.blind, fun U hU hU2 => ⟨rfl, a1, State.WarmedH.trans hW hU2, by rw [hU]; exact S_nil a4, by rw [hU]; exact a2, a3⟩⟩ rfl hn a5.1 rfl (lv_room hw) d ⟨hr.2.2.1, hr.2.2.2⟩) a4 (fun H1 locs1 b1 b2 b3 b4 => K H1 locs1 ls b1 b2 b3 b4 a5)
theorem x_f2dK {β : Type} {rM : β} (C : CX Γ X cc nL own ret R0) {x : UInt32} {a : Option β} (d : decode cc pc = .ok (.f2d, 1)) (q : Nat) (hq : pc + 1 = q) (hf : okD (FP.f2d x) a = some rM) (K : a = some rM → G Γ X M cs sl L (.double (FP.f2d x) :: st) q) : G Γ X M cs sl L (.float x :: st) pc := by
  obtain ⟨h1, h2⟩ := if_some hf
  exact x_f2d C h1 d q hq (K h2)
end Wr
section Tab
variable {Γ : WC} {X : MX} {M : Mem} {cs sl : Nat} {L : List (Option Value)} {st : List Value} {pc : Nat} {cc : ByteArray} {nL : Nat} {own : String} {ret : Option FieldType} {R0 : Room}
theorem x_tabIn (C : CX Γ X cc nL own ret R0) {dflt hi : Int} {offs : Array Int} {len n : Nat} {x : Int32} {off : Int} (tgt : Nat) (d : decode cc pc = .ok (.tableswitch dflt 0 hi offs, len)) (hx : x.toInt = (n : Int)) (h2 : (n : Int) ≤ hi) (ho : offs[n]? = some off) (ht : (pc : Int) + off = (tgt : Int)) (K : G Γ X M cs sl L st tgt) : G Γ X M cs sl L (.int x :: st) pc := by
  obtain ⟨p, e, R, s, m, args, below, meth, c, Q⟩ := X
  obtain ⟨hx1, hb, hml, hown, hts, hW, hlk, hret, hR, hK, hSs, hG⟩ := C
  intro H locs ls a1 a2 a3 a4 a5
  exact lv_tableIn hx1 hb d (by omega) (by omega) (by rw [hx, Int.sub_zero, Int.toNat_natCast]; exact ho) ht (K H locs ls a1 a2 a3 a4 a5)
theorem x_tabOut (C : CX Γ X cc nL own ret R0) {dflt lo hi : Int} {offs : Array Int} {len : Nat} {x : Int32} (tgt : Nat) (d : decode cc pc = .ok (.tableswitch dflt lo hi offs, len)) (h : x.toInt < lo ∨ hi < x.toInt) (ht : (pc : Int) + dflt = (tgt : Int)) (K : G Γ X M cs sl L st tgt) : G Γ X M cs sl L (.int x :: st) pc := by
  obtain ⟨p, e, R, s, m, args, below, meth, c, Q⟩ := X
  obtain ⟨hx1, hb, hml, hown, hts, hW, hlk, hret, hR, hK, hSs, hG⟩ := C
  intro H locs ls a1 a2 a3 a4 a5
  exact lv_tableOut hx1 hb d h ht (K H locs ls a1 a2 a3 a4 a5)
end Tab
theorem ln_RL_33 : Gd (.methodLink RL 33 yX11_gain) := gd 1104 (by decide +kernel) rfl
theorem ln_RL_41 : Gd (.methodLink RL 41 yX11_percent) := gd 1148 (by decide +kernel) rfl
theorem ln_RL_44 : Gd (.methodLink RL 44 yX11_limit) := gd 1153 (by decide +kernel) rfl
theorem ln_RL_47 : Gd (.methodLink RL 47 yX11_reach) := gd 1157 (by decide +kernel) rfl
theorem ln_RL_54 : Gd (.methodLink RL 54 yX11_flow) := gd 1210 (by decide +kernel) rfl
theorem ln_RL_58 : Gd (.methodLink RL 58 yX11_use) := gd 1214 (by decide +kernel) rfl
theorem ln_RL_62 : Gd (.methodLink RL 62 yX11_busiest) := gd 1218 (by decide +kernel) rfl
theorem ln_RL_80 : Gd (.methodLink RL 80 yX11_walked) := gd 1363 (by decide +kernel) rfl
theorem ln_RL_83 : Gd (.methodLink RL 83 yX11_gainOfWalks) := gd 1372 (by decide +kernel) rfl
theorem ln_RL_86 : Gd (.methodLink RL 86 yX11_reportByte) := gd 1398 (by decide +kernel) rfl
theorem ln_RL_89 : Gd (.methodLink RL 89 yX11_setRule) := gd 1403 (by decide +kernel) rfl
theorem ln_RL_96 : Gd (.methodLink RL 96 yX11_permit) := gd 1423 (by decide +kernel) rfl
theorem ln_RL_100 : Gd (.methodLink RL 100 yX11_setLimit) := gd 1429 (by decide +kernel) rfl
theorem ln_RL_103 : Gd (.methodLink RL 103 yX11_setHorizon) := gd 1433 (by decide +kernel) rfl
theorem ln_RL_106 : Gd (.methodLink RL 106 yX11_undo) := gd 1437 (by decide +kernel) rfl
theorem ln_RL_115 : Gd (.methodLink RL 115 yX11_start) := gd 1471 (by decide +kernel) rfl
theorem ln_RL_118 : Gd (.methodLink RL 118 yL_calls) := gd 1101 (by decide +kernel) rfl
theorem mw_L_calls : MW yL_calls cL_calls 5 (some .long) 5 := ⟨gd 46 (by decide +kernel) rfl, gd 1103 (by decide +kernel) rfl, ⟨by decide, by decide⟩, by decide +kernel⟩
theorem mw_X11_busiest : MW yX11_busiest cX11_busiest 3 (some .int) 1 := ⟨gd 61 (by decide +kernel) rfl, gd 1221 (by decide +kernel) rfl, ⟨by decide, by decide⟩, by decide +kernel⟩
theorem mw_X11_flow : MW yX11_flow cX11_flow 3 (some .long) 2 := ⟨gd 61 (by decide +kernel) rfl, gd 1213 (by decide +kernel) rfl, ⟨by decide, by decide⟩, by decide +kernel⟩
theorem mw_X11_gain : MW yX11_gain cX11_gain 3 (some .int) 2 := ⟨gd 61 (by decide +kernel) rfl, gd 1107 (by decide +kernel) rfl, ⟨by decide, by decide⟩, by decide +kernel⟩
theorem mw_X11_gainOfWalks : MW yX11_gainOfWalks cX11_gainOfWalks 4 (some .int) 1 := ⟨gd 61 (by decide +kernel) rfl, gd 1375 (by decide +kernel) rfl, ⟨by decide, by decide⟩, by decide +kernel⟩
theorem mw_X11_limit : MW yX11_limit cX11_limit 2 (some .int) 1 := ⟨gd 61 (by decide +kernel) rfl, gd 1156 (by decide +kernel) rfl, ⟨by decide, by decide⟩, by decide +kernel⟩
theorem mw_X11_percent : MW yX11_percent cX11_percent 4 (some .int) 3 := ⟨gd 61 (by decide +kernel) rfl, gd 1151 (by decide +kernel) rfl, ⟨by decide, by decide⟩, by decide +kernel⟩
theorem mw_X11_permit : MW yX11_permit cX11_permit 6 (some .boolean) 3 := ⟨gd 61 (by decide +kernel) rfl, gd 1426 (by decide +kernel) rfl, ⟨by decide, by decide⟩, by decide +kernel⟩
theorem mw_X11_reach : MW yX11_reach cX11_reach 4 (some .int) 1 := ⟨gd 61 (by decide +kernel) rfl, gd 1160 (by decide +kernel) rfl, ⟨by decide, by decide⟩, by decide +kernel⟩
theorem mw_X11_reportByte : MW yX11_reportByte cX11_reportByte 2 (some .int) 1 := ⟨gd 61 (by decide +kernel) rfl, gd 1401 (by decide +kernel) rfl, ⟨by decide, by decide⟩, by decide +kernel⟩
theorem mw_X11_setHorizon : MW yX11_setHorizon cX11_setHorizon 3 (some .int) 1 := ⟨gd 61 (by decide +kernel) rfl, gd 1436 (by decide +kernel) rfl, ⟨by decide, by decide⟩, by decide +kernel⟩
theorem mw_X11_setLimit : MW yX11_setLimit cX11_setLimit 4 (some .int) 2 := ⟨gd 61 (by decide +kernel) rfl, gd 1432 (by decide +kernel) rfl, ⟨by decide, by decide⟩, by decide +kernel⟩
theorem mw_X11_setRule : MW yX11_setRule cX11_setRule 5 (some .int) 4 := ⟨gd 61 (by decide +kernel) rfl, gd 1406 (by decide +kernel) rfl, ⟨by decide, by decide⟩, by decide +kernel⟩
theorem mw_X11_start : MW yX11_start cX11_start 1 (some .int) 0 := ⟨gd 61 (by decide +kernel) rfl, gd 1474 (by decide +kernel) rfl, ⟨by decide, by decide⟩, by decide +kernel⟩
theorem mw_X11_undo : MW yX11_undo cX11_undo 1 (some .int) 0 := ⟨gd 61 (by decide +kernel) rfl, gd 1440 (by decide +kernel) rfl, ⟨by decide, by decide⟩, by decide +kernel⟩
theorem mw_X11_use : MW yX11_use cX11_use 4 (some .long) 3 := ⟨gd 61 (by decide +kernel) rfl, gd 1217 (by decide +kernel) rfl, ⟨by decide, by decide⟩, by decide +kernel⟩
theorem mw_X11_walked : MW yX11_walked cX11_walked 2 (some .int) 1 := ⟨gd 61 (by decide +kernel) rfl, gd 1366 (by decide +kernel) rfl, ⟨by decide, by decide⟩, by decide +kernel⟩
theorem mi_X11_busiest : (Gd (.instanceMethod yX11_busiest) ∧ Gd (.selects yX11_busiest.cls yX11_busiest yX11_busiest)) := ⟨gd 1219 (by decide +kernel) rfl, gd 1220 (by decide +kernel) rfl⟩
theorem mi_X11_flow : (Gd (.instanceMethod yX11_flow) ∧ Gd (.selects yX11_flow.cls yX11_flow yX11_flow)) := ⟨gd 1211 (by decide +kernel) rfl, gd 1212 (by decide +kernel) rfl⟩
theorem mi_X11_gain : (Gd (.instanceMethod yX11_gain) ∧ Gd (.selects yX11_gain.cls yX11_gain yX11_gain)) := ⟨gd 1105 (by decide +kernel) rfl, gd 1106 (by decide +kernel) rfl⟩
theorem mi_X11_gainOfWalks : (Gd (.instanceMethod yX11_gainOfWalks) ∧ Gd (.selects yX11_gainOfWalks.cls yX11_gainOfWalks yX11_gainOfWalks)) := ⟨gd 1373 (by decide +kernel) rfl, gd 1374 (by decide +kernel) rfl⟩
theorem mi_X11_limit : (Gd (.instanceMethod yX11_limit) ∧ Gd (.selects yX11_limit.cls yX11_limit yX11_limit)) := ⟨gd 1154 (by decide +kernel) rfl, gd 1155 (by decide +kernel) rfl⟩
theorem mi_X11_percent : (Gd (.instanceMethod yX11_percent) ∧ Gd (.selects yX11_percent.cls yX11_percent yX11_percent)) := ⟨gd 1149 (by decide +kernel) rfl, gd 1150 (by decide +kernel) rfl⟩
theorem mi_X11_permit : (Gd (.instanceMethod yX11_permit) ∧ Gd (.selects yX11_permit.cls yX11_permit yX11_permit)) := ⟨gd 1424 (by decide +kernel) rfl, gd 1425 (by decide +kernel) rfl⟩
theorem mi_X11_reach : (Gd (.instanceMethod yX11_reach) ∧ Gd (.selects yX11_reach.cls yX11_reach yX11_reach)) := ⟨gd 1158 (by decide +kernel) rfl, gd 1159 (by decide +kernel) rfl⟩
theorem mi_X11_reportByte : (Gd (.instanceMethod yX11_reportByte) ∧ Gd (.selects yX11_reportByte.cls yX11_reportByte yX11_reportByte)) := ⟨gd 1399 (by decide +kernel) rfl, gd 1400 (by decide +kernel) rfl⟩
theorem mi_X11_setHorizon : (Gd (.instanceMethod yX11_setHorizon) ∧ Gd (.selects yX11_setHorizon.cls yX11_setHorizon yX11_setHorizon)) := ⟨gd 1434 (by decide +kernel) rfl, gd 1435 (by decide +kernel) rfl⟩
theorem mi_X11_setLimit : (Gd (.instanceMethod yX11_setLimit) ∧ Gd (.selects yX11_setLimit.cls yX11_setLimit yX11_setLimit)) := ⟨gd 1430 (by decide +kernel) rfl, gd 1431 (by decide +kernel) rfl⟩
theorem mi_X11_setRule : (Gd (.instanceMethod yX11_setRule) ∧ Gd (.selects yX11_setRule.cls yX11_setRule yX11_setRule)) := ⟨gd 1404 (by decide +kernel) rfl, gd 1405 (by decide +kernel) rfl⟩
theorem mi_X11_start : (Gd (.instanceMethod yX11_start) ∧ Gd (.selects yX11_start.cls yX11_start yX11_start)) := ⟨gd 1472 (by decide +kernel) rfl, gd 1473 (by decide +kernel) rfl⟩
theorem mi_X11_undo : (Gd (.instanceMethod yX11_undo) ∧ Gd (.selects yX11_undo.cls yX11_undo yX11_undo)) := ⟨gd 1438 (by decide +kernel) rfl, gd 1439 (by decide +kernel) rfl⟩
theorem mi_X11_use : (Gd (.instanceMethod yX11_use) ∧ Gd (.selects yX11_use.cls yX11_use yX11_use)) := ⟨gd 1215 (by decide +kernel) rfl, gd 1216 (by decide +kernel) rfl⟩
theorem mi_X11_walked : (Gd (.instanceMethod yX11_walked) ∧ Gd (.selects yX11_walked.cls yX11_walked yX11_walked)) := ⟨gd 1364 (by decide +kernel) rfl, gd 1365 (by decide +kernel) rfl⟩
theorem ms_L_calls : Gd (.static yL_calls) := gd 1102 (by decide +kernel) rfl
theorem clk0 : Gd (.classLink RL 124 (xN 0)) := gd 1098 (by decide +kernel) rfl
theorem ckk0 : Gd (.castable (xN 0) (xN 0)) := gd 1122 (by decide +kernel) rfl
theorem clk1 : Gd (.classLink RL 126 (xN 1)) := gd 1099 (by decide +kernel) rfl
theorem ckk1 : Gd (.castable (xN 1) (xN 1)) := gd 853 (by decide +kernel) rfl
theorem clk2 : Gd (.classLink RL 128 (xN 2)) := gd 1100 (by decide +kernel) rfl
theorem ckk2 : Gd (.castable (xN 2) (xN 2)) := gd 1055 (by decide +kernel) rfl
theorem mww_L_thrown : MWW yL_thrown cL_thrown 6 (some .int) [(0, 21, 22, 124), (0, 21, 26, 126), (0, 21, 30, 128)] 5 := ⟨gd 46 (by decide +kernel) rfl, gd 1097 (by decide +kernel) rfl, ⟨by decide, by decide⟩, by decide +kernel, gd 1096 (by decide +kernel) rfl⟩
def f_L_calls_26 (Z : Nat) (M : Mem) (a b9 c9 : Int32) : Option (Except Nat Int64 × Mem) := clT (f_X11_start Z M) (fun _ _ => none) pr
set_option maxRecDepth 100000 in
theorem c_L_calls_26 {Γ : WC} (hN : HN Γ) {Z : Nat} {M : Mem} {a b9 c9 : Int32} {rM : Except Nat Int64 × Mem} (hf : f_L_calls_26 Z M a b9 c9 = some rM) : CtT Γ yL_calls cL_calls 5 (some .long) (rmL 8 1 6) [.ref (wad Γ 0), .int (26 : Int32), .int a, .int b9, .int c9] M (fun v => some (.long v)) rM := by
  refine mkT hN.1 (own := RL) rfl (by decide) (Nat.le_of_ble_eq_true rfl) (fun X C E => ?_)
  change G Γ X M 0 0 [some (.ref (wad Γ 0)), some (.int (26 : Int32)), some (.int a), some (.int b9), some (.int c9)] [] 0
  unfold f_L_calls_26 at hf
  refine x_iload_n C rfl rfl (dkAt dk_L_calls 0 rfl) 1 rfl ?_
  refine x_tabOut C 344 (dkAt dk_L_calls 1 rfl) (Or.inr (by decide)) (by decide) ?_
  refine x_aload_n C rfl rfl (dkAt dk_L_calls 156 rfl) 345 rfl ?_
  exact t_cVi C E hf (fun r hr => c_X11_start hN hr) mw_X11_start ln_RL_115 (mi_X11_start) (hN.rc (ci := 11) sh0 rc11) (ro_of (by decide) (by decide) (by decide) (by decide)) rfl rfl (Nat.le_of_ble_eq_true rfl) (dkAt dk_L_calls 157 rfl) 348 rfl 1 6 rfl rfl (by decide) (by decide) (fun v M2 hf => nomatch hf)
def f_L_thrown_26 (Z : Nat) (M : Mem) (a b9 c9 : Int32) : Option (Int32 × Mem) := clT (f_L_calls_26 Z M a b9 c9) (fun _ _ => none) (fun e M3 => if e = 0 then some (1, M3) else if e = 1 then some (2, M3) else if e = 2 then some (3, M3) else none)
set_option maxRecDepth 100000 in
theorem c_L_thrown_26 {Γ : WC} (hN : HN Γ) (hC : NC Γ) {Z : Nat} {M : Mem} {a b9 c9 : Int32} {rM : Int32 × Mem} (hf : f_L_thrown_26 Z M a b9 c9 = some rM) : CtW Γ yL_thrown cL_thrown 6 (some .int) [(0, 21, 22, 124), (0, 21, 26, 126), (0, 21, 30, 128)] (rmL 9 1 6) [.ref (wad Γ 0), .int (26 : Int32), .int a, .int b9, .int c9] M (some (.int rM.1)) rM.2 := by
  refine mkW hN.1 (own := RL) rfl (by decide) (Nat.le_of_ble_eq_true rfl) (fun X C hT E => ?_)
  change G Γ X M 0 0 [some (.ref (wad Γ 0)), some (.int (26 : Int32)), some (.int a), some (.int b9), some (.int c9)] [] 0
  unfold f_L_thrown_26 at hf
  refine x_aload_n C rfl rfl (dkAt dk_L_thrown 0 rfl) 1 rfl ?_
  refine x_iload_n C rfl rfl (dkAt dk_L_thrown 1 rfl) 2 rfl ?_
  refine x_iload_n C rfl rfl (dkAt dk_L_thrown 2 rfl) 3 rfl ?_
  refine x_iload_n C rfl rfl (dkAt dk_L_thrown 3 rfl) 4 rfl ?_
  refine x_iload C rfl (dkAt dk_L_thrown 4 rfl) 6 rfl ?_
  refine h_cSl C hf (fun r hr => c_L_calls_26 hN hr) mw_L_calls ln_RL_118 ms_L_calls (ro_of (by decide) (by decide) (by decide) (by decide)) rfl rfl (Nat.le_of_ble_eq_true rfl) (dkAt dk_L_thrown 5 rfl) 9 rfl 1 6 rfl rfl (fun v M2 hf => nomatch hf) (fun e M3 hf => ?_)
  refine if_then hf (fun hE hf => ?_) (fun hE hf => ?_)
  · subst hE
    refine x_catch C hC hT [] ⟨0, 21, 22, 124⟩ [⟨0, 21, 26, 126⟩, ⟨0, 21, 30, 128⟩] rfl (fun _ h => nomatch h) (by decide) (by decide) (by decide) clk0 ckk0 (fun qa => ?_)
    refine x_astore C (L1 := [some (.ref (wad Γ 0)), some (.int (26 : Int32)), some (.int a), some (.int b9), some (.int c9), some (.ref qa)]) (dkAt dk_L_thrown 13 rfl) 24 rfl (by decide) rfl ?_
    refine x_iconst C (v := (1 : Int32)) (by decide) (dkAt dk_L_thrown 14 rfl) 25 rfl ?_
    exact x_iret C E hf (by decide) (by decide) (dkAt dk_L_thrown 15 rfl)
  · refine if_then hf (fun hE hf => ?_) (fun hE hf => ?_)
    · subst hE
      refine x_catch C hC hT [⟨0, 21, 22, 124⟩] ⟨0, 21, 26, 126⟩ [⟨0, 21, 30, 128⟩] rfl (List.forall_mem_cons.mpr ⟨⟨by decide, 0, by decide, by decide, clk0⟩, (fun _ h => nomatch h)⟩) (by decide) (by decide) (by decide) clk1 ckk1 (fun qa => ?_)
      refine x_astore C (L1 := [some (.ref (wad Γ 0)), some (.int (26 : Int32)), some (.int a), some (.int b9), some (.int c9), some (.ref qa)]) (dkAt dk_L_thrown 16 rfl) 28 rfl (by decide) rfl ?_
      refine x_iconst C (v := (2 : Int32)) (by decide) (dkAt dk_L_thrown 17 rfl) 29 rfl ?_
      exact x_iret C E hf (by decide) (by decide) (dkAt dk_L_thrown 18 rfl)
    · refine if_then hf (fun hE hf => ?_) (fun hE hf => ?_)
      · subst hE
        refine x_catch C hC hT [⟨0, 21, 22, 124⟩, ⟨0, 21, 26, 126⟩] ⟨0, 21, 30, 128⟩ [] rfl (List.forall_mem_cons.mpr ⟨⟨by decide, 0, by decide, by decide, clk0⟩, (List.forall_mem_cons.mpr ⟨⟨by decide, 1, by decide, by decide, clk1⟩, (fun _ h => nomatch h)⟩)⟩) (by decide) (by decide) (by decide) clk2 ckk2 (fun qa => ?_)
        refine x_astore C (L1 := [some (.ref (wad Γ 0)), some (.int (26 : Int32)), some (.int a), some (.int b9), some (.int c9), some (.ref qa)]) (dkAt dk_L_thrown 19 rfl) 32 rfl (by decide) rfl ?_
        refine x_iconst C (v := (3 : Int32)) (by decide) (dkAt dk_L_thrown 20 rfl) 33 rfl ?_
        exact x_iret C E hf (by decide) (by decide) (dkAt dk_L_thrown 21 rfl)
      · exact nomatch hf
def f_L_calls_0 (Z : Nat) (M : Mem) (a b9 c9 : Int32) : Option (Except Nat Int64 × Mem) := clT (f_X11_gain Z M a b9) (fun _ _ => none) pr
set_option maxRecDepth 100000 in
theorem c_L_calls_0 {Γ : WC} (hN : HN Γ) {Z : Nat} {M : Mem} {a b9 c9 : Int32} {rM : Except Nat Int64 × Mem} (hf : f_L_calls_0 Z M a b9 c9 = some rM) : CtT Γ yL_calls cL_calls 5 (some .long) (rmL 10 3 18) [.ref (wad Γ 0), .int (0 : Int32), .int a, .int b9, .int c9] M (fun v => some (.long v)) rM := by
  refine mkT hN.1 (own := RL) rfl (by decide) (Nat.le_of_ble_eq_true rfl) (fun X C E => ?_)
  change G Γ X M 0 0 [some (.ref (wad Γ 0)), some (.int (0 : Int32)), some (.int a), some (.int b9), some (.int c9)] [] 0
  unfold f_L_calls_0 at hf
  refine x_iload_n C rfl rfl (dkAt dk_L_calls 0 rfl) 1 rfl ?_
  refine x_tabIn C 120 (dkAt dk_L_calls 1 rfl) (n := 0) rfl (by decide) rfl (by decide) ?_
  refine x_aload_n C rfl rfl (dkAt dk_L_calls 2 rfl) 121 rfl ?_
  refine x_iload_n C rfl rfl (dkAt dk_L_calls 3 rfl) 122 rfl ?_
  refine x_iload_n C rfl rfl (dkAt dk_L_calls 4 rfl) 123 rfl ?_
  exact t_cVi C E hf (fun r hr => c_X11_gain hN hr) mw_X11_gain ln_RL_33 (mi_X11_gain) (hN.rc (ci := 11) sh0 rc11) (ro_of (by decide) (by decide) (by decide) (by decide)) rfl rfl (Nat.le_of_ble_eq_true rfl) (dkAt dk_L_calls 5 rfl) 126 rfl 3 18 rfl rfl (by decide) (by decide) (fun v M2 hf => nomatch hf)
def f_L_thrown_0 (Z : Nat) (M : Mem) (a b9 c9 : Int32) : Option (Int32 × Mem) := clT (f_L_calls_0 Z M a b9 c9) (fun _ _ => none) (fun e M3 => if e = 0 then some (1, M3) else if e = 1 then some (2, M3) else if e = 2 then some (3, M3) else none)
set_option maxRecDepth 100000 in
theorem c_L_thrown_0 {Γ : WC} (hN : HN Γ) (hC : NC Γ) {Z : Nat} {M : Mem} {a b9 c9 : Int32} {rM : Int32 × Mem} (hf : f_L_thrown_0 Z M a b9 c9 = some rM) : CtW Γ yL_thrown cL_thrown 6 (some .int) [(0, 21, 22, 124), (0, 21, 26, 126), (0, 21, 30, 128)] (rmL 11 3 18) [.ref (wad Γ 0), .int (0 : Int32), .int a, .int b9, .int c9] M (some (.int rM.1)) rM.2 := by
  refine mkW hN.1 (own := RL) rfl (by decide) (Nat.le_of_ble_eq_true rfl) (fun X C hT E => ?_)
  change G Γ X M 0 0 [some (.ref (wad Γ 0)), some (.int (0 : Int32)), some (.int a), some (.int b9), some (.int c9)] [] 0
  unfold f_L_thrown_0 at hf
  refine x_aload_n C rfl rfl (dkAt dk_L_thrown 0 rfl) 1 rfl ?_
  refine x_iload_n C rfl rfl (dkAt dk_L_thrown 1 rfl) 2 rfl ?_
  refine x_iload_n C rfl rfl (dkAt dk_L_thrown 2 rfl) 3 rfl ?_
  refine x_iload_n C rfl rfl (dkAt dk_L_thrown 3 rfl) 4 rfl ?_
  refine x_iload C rfl (dkAt dk_L_thrown 4 rfl) 6 rfl ?_
  refine h_cSl C hf (fun r hr => c_L_calls_0 hN hr) mw_L_calls ln_RL_118 ms_L_calls (ro_of (by decide) (by decide) (by decide) (by decide)) rfl rfl (Nat.le_of_ble_eq_true rfl) (dkAt dk_L_thrown 5 rfl) 9 rfl 3 18 rfl rfl (fun v M2 hf => nomatch hf) (fun e M3 hf => ?_)
  refine if_then hf (fun hE hf => ?_) (fun hE hf => ?_)
  · subst hE
    refine x_catch C hC hT [] ⟨0, 21, 22, 124⟩ [⟨0, 21, 26, 126⟩, ⟨0, 21, 30, 128⟩] rfl (fun _ h => nomatch h) (by decide) (by decide) (by decide) clk0 ckk0 (fun qa => ?_)
    refine x_astore C (L1 := [some (.ref (wad Γ 0)), some (.int (0 : Int32)), some (.int a), some (.int b9), some (.int c9), some (.ref qa)]) (dkAt dk_L_thrown 13 rfl) 24 rfl (by decide) rfl ?_
    refine x_iconst C (v := (1 : Int32)) (by decide) (dkAt dk_L_thrown 14 rfl) 25 rfl ?_
    exact x_iret C E hf (by decide) (by decide) (dkAt dk_L_thrown 15 rfl)
  · refine if_then hf (fun hE hf => ?_) (fun hE hf => ?_)
    · subst hE
      refine x_catch C hC hT [⟨0, 21, 22, 124⟩] ⟨0, 21, 26, 126⟩ [⟨0, 21, 30, 128⟩] rfl (List.forall_mem_cons.mpr ⟨⟨by decide, 0, by decide, by decide, clk0⟩, (fun _ h => nomatch h)⟩) (by decide) (by decide) (by decide) clk1 ckk1 (fun qa => ?_)
      refine x_astore C (L1 := [some (.ref (wad Γ 0)), some (.int (0 : Int32)), some (.int a), some (.int b9), some (.int c9), some (.ref qa)]) (dkAt dk_L_thrown 16 rfl) 28 rfl (by decide) rfl ?_
      refine x_iconst C (v := (2 : Int32)) (by decide) (dkAt dk_L_thrown 17 rfl) 29 rfl ?_
      exact x_iret C E hf (by decide) (by decide) (dkAt dk_L_thrown 18 rfl)
    · refine if_then hf (fun hE hf => ?_) (fun hE hf => ?_)
      · subst hE
        refine x_catch C hC hT [⟨0, 21, 22, 124⟩, ⟨0, 21, 26, 126⟩] ⟨0, 21, 30, 128⟩ [] rfl (List.forall_mem_cons.mpr ⟨⟨by decide, 0, by decide, by decide, clk0⟩, (List.forall_mem_cons.mpr ⟨⟨by decide, 1, by decide, by decide, clk1⟩, (fun _ h => nomatch h)⟩)⟩) (by decide) (by decide) (by decide) clk2 ckk2 (fun qa => ?_)
        refine x_astore C (L1 := [some (.ref (wad Γ 0)), some (.int (0 : Int32)), some (.int a), some (.int b9), some (.int c9), some (.ref qa)]) (dkAt dk_L_thrown 19 rfl) 32 rfl (by decide) rfl ?_
        refine x_iconst C (v := (3 : Int32)) (by decide) (dkAt dk_L_thrown 20 rfl) 33 rfl ?_
        exact x_iret C E hf (by decide) (by decide) (dkAt dk_L_thrown 21 rfl)
      · exact nomatch hf
def f_L_calls_22 (Z : Nat) (M : Mem) (a b9 c9 : Int32) : Option (Except Nat Int64 × Mem) := clT (f_X11_undo Z M) (fun _ _ => none) pr
set_option maxRecDepth 100000 in
theorem c_L_calls_22 {Γ : WC} (hN : HN Γ) {Z : Nat} {M : Mem} {a b9 c9 : Int32} {rM : Except Nat Int64 × Mem} (hf : f_L_calls_22 Z M a b9 c9 = some rM) : CtT Γ yL_calls cL_calls 5 (some .long) (rmL 7 1 6) [.ref (wad Γ 0), .int (22 : Int32), .int a, .int b9, .int c9] M (fun v => some (.long v)) rM := by
  refine mkT hN.1 (own := RL) rfl (by decide) (Nat.le_of_ble_eq_true rfl) (fun X C E => ?_)
  change G Γ X M 0 0 [some (.ref (wad Γ 0)), some (.int (22 : Int32)), some (.int a), some (.int b9), some (.int c9)] [] 0
  unfold f_L_calls_22 at hf
  refine x_iload_n C rfl rfl (dkAt dk_L_calls 0 rfl) 1 rfl ?_
  refine x_tabIn C 317 (dkAt dk_L_calls 1 rfl) (n := 22) rfl (by decide) rfl (by decide) ?_
  refine x_aload_n C rfl rfl (dkAt dk_L_calls 137 rfl) 318 rfl ?_
  exact t_cVi C E hf (fun r hr => c_X11_undo hN hr) mw_X11_undo ln_RL_106 (mi_X11_undo) (hN.rc (ci := 11) sh0 rc11) (ro_of (by decide) (by decide) (by decide) (by decide)) rfl rfl (Nat.le_of_ble_eq_true rfl) (dkAt dk_L_calls 138 rfl) 321 rfl 1 6 rfl rfl (by decide) (by decide) (fun v M2 hf => nomatch hf)
def f_L_thrown_22 (Z : Nat) (M : Mem) (a b9 c9 : Int32) : Option (Int32 × Mem) := clT (f_L_calls_22 Z M a b9 c9) (fun _ _ => none) (fun e M3 => if e = 0 then some (1, M3) else if e = 1 then some (2, M3) else if e = 2 then some (3, M3) else none)
set_option maxRecDepth 100000 in
theorem c_L_thrown_22 {Γ : WC} (hN : HN Γ) (hC : NC Γ) {Z : Nat} {M : Mem} {a b9 c9 : Int32} {rM : Int32 × Mem} (hf : f_L_thrown_22 Z M a b9 c9 = some rM) : CtW Γ yL_thrown cL_thrown 6 (some .int) [(0, 21, 22, 124), (0, 21, 26, 126), (0, 21, 30, 128)] (rmL 8 1 6) [.ref (wad Γ 0), .int (22 : Int32), .int a, .int b9, .int c9] M (some (.int rM.1)) rM.2 := by
  refine mkW hN.1 (own := RL) rfl (by decide) (Nat.le_of_ble_eq_true rfl) (fun X C hT E => ?_)
  change G Γ X M 0 0 [some (.ref (wad Γ 0)), some (.int (22 : Int32)), some (.int a), some (.int b9), some (.int c9)] [] 0
  unfold f_L_thrown_22 at hf
  refine x_aload_n C rfl rfl (dkAt dk_L_thrown 0 rfl) 1 rfl ?_
  refine x_iload_n C rfl rfl (dkAt dk_L_thrown 1 rfl) 2 rfl ?_
  refine x_iload_n C rfl rfl (dkAt dk_L_thrown 2 rfl) 3 rfl ?_
  refine x_iload_n C rfl rfl (dkAt dk_L_thrown 3 rfl) 4 rfl ?_
  refine x_iload C rfl (dkAt dk_L_thrown 4 rfl) 6 rfl ?_
  refine h_cSl C hf (fun r hr => c_L_calls_22 hN hr) mw_L_calls ln_RL_118 ms_L_calls (ro_of (by decide) (by decide) (by decide) (by decide)) rfl rfl (Nat.le_of_ble_eq_true rfl) (dkAt dk_L_thrown 5 rfl) 9 rfl 1 6 rfl rfl (fun v M2 hf => nomatch hf) (fun e M3 hf => ?_)
  refine if_then hf (fun hE hf => ?_) (fun hE hf => ?_)
  · subst hE
    refine x_catch C hC hT [] ⟨0, 21, 22, 124⟩ [⟨0, 21, 26, 126⟩, ⟨0, 21, 30, 128⟩] rfl (fun _ h => nomatch h) (by decide) (by decide) (by decide) clk0 ckk0 (fun qa => ?_)
    refine x_astore C (L1 := [some (.ref (wad Γ 0)), some (.int (22 : Int32)), some (.int a), some (.int b9), some (.int c9), some (.ref qa)]) (dkAt dk_L_thrown 13 rfl) 24 rfl (by decide) rfl ?_
    refine x_iconst C (v := (1 : Int32)) (by decide) (dkAt dk_L_thrown 14 rfl) 25 rfl ?_
    exact x_iret C E hf (by decide) (by decide) (dkAt dk_L_thrown 15 rfl)
  · refine if_then hf (fun hE hf => ?_) (fun hE hf => ?_)
    · subst hE
      refine x_catch C hC hT [⟨0, 21, 22, 124⟩] ⟨0, 21, 26, 126⟩ [⟨0, 21, 30, 128⟩] rfl (List.forall_mem_cons.mpr ⟨⟨by decide, 0, by decide, by decide, clk0⟩, (fun _ h => nomatch h)⟩) (by decide) (by decide) (by decide) clk1 ckk1 (fun qa => ?_)
      refine x_astore C (L1 := [some (.ref (wad Γ 0)), some (.int (22 : Int32)), some (.int a), some (.int b9), some (.int c9), some (.ref qa)]) (dkAt dk_L_thrown 16 rfl) 28 rfl (by decide) rfl ?_
      refine x_iconst C (v := (2 : Int32)) (by decide) (dkAt dk_L_thrown 17 rfl) 29 rfl ?_
      exact x_iret C E hf (by decide) (by decide) (dkAt dk_L_thrown 18 rfl)
    · refine if_then hf (fun hE hf => ?_) (fun hE hf => ?_)
      · subst hE
        refine x_catch C hC hT [⟨0, 21, 22, 124⟩, ⟨0, 21, 26, 126⟩] ⟨0, 21, 30, 128⟩ [] rfl (List.forall_mem_cons.mpr ⟨⟨by decide, 0, by decide, by decide, clk0⟩, (List.forall_mem_cons.mpr ⟨⟨by decide, 1, by decide, by decide, clk1⟩, (fun _ h => nomatch h)⟩)⟩) (by decide) (by decide) (by decide) clk2 ckk2 (fun qa => ?_)
        refine x_astore C (L1 := [some (.ref (wad Γ 0)), some (.int (22 : Int32)), some (.int a), some (.int b9), some (.int c9), some (.ref qa)]) (dkAt dk_L_thrown 19 rfl) 32 rfl (by decide) rfl ?_
        refine x_iconst C (v := (3 : Int32)) (by decide) (dkAt dk_L_thrown 20 rfl) 33 rfl ?_
        exact x_iret C E hf (by decide) (by decide) (dkAt dk_L_thrown 21 rfl)
      · exact nomatch hf
def f_L_calls_16 (Z : Nat) (M : Mem) (a b9 c9 : Int32) : Option (Except Nat Int64 × Mem) := clT (f_X11_reportByte Z M a) (fun _ _ => none) pr
set_option maxRecDepth 100000 in
theorem c_L_calls_16 {Γ : WC} (hN : HN Γ) {Z : Nat} {M : Mem} {a b9 c9 : Int32} {rM : Except Nat Int64 × Mem} (hf : f_L_calls_16 Z M a b9 c9 = some rM) : CtT Γ yL_calls cL_calls 5 (some .long) (rmL 7 1 6) [.ref (wad Γ 0), .int (16 : Int32), .int a, .int b9, .int c9] M (fun v => some (.long v)) rM := by
  refine mkT hN.1 (own := RL) rfl (by decide) (Nat.le_of_ble_eq_true rfl) (fun X C E => ?_)
  change G Γ X M 0 0 [some (.ref (wad Γ 0)), some (.int (16 : Int32)), some (.int a), some (.int b9), some (.int c9)] [] 0
  unfold f_L_calls_16 at hf
  refine x_iload_n C rfl rfl (dkAt dk_L_calls 0 rfl) 1 rfl ?_
  refine x_tabIn C 252 (dkAt dk_L_calls 1 rfl) (n := 16) rfl (by decide) rfl (by decide) ?_
  refine x_aload_n C rfl rfl (dkAt dk_L_calls 94 rfl) 253 rfl ?_
  refine x_iload_n C rfl rfl (dkAt dk_L_calls 95 rfl) 254 rfl ?_
  exact t_cVi C E hf (fun r hr => c_X11_reportByte hN hr) mw_X11_reportByte ln_RL_86 (mi_X11_reportByte) (hN.rc (ci := 11) sh0 rc11) (ro_of (by decide) (by decide) (by decide) (by decide)) rfl rfl (Nat.le_of_ble_eq_true rfl) (dkAt dk_L_calls 96 rfl) 257 rfl 1 6 rfl rfl (by decide) (by decide) (fun v M2 hf => nomatch hf)
def f_L_thrown_16 (Z : Nat) (M : Mem) (a b9 c9 : Int32) : Option (Int32 × Mem) := clT (f_L_calls_16 Z M a b9 c9) (fun _ _ => none) (fun e M3 => if e = 0 then some (1, M3) else if e = 1 then some (2, M3) else if e = 2 then some (3, M3) else none)
set_option maxRecDepth 100000 in
theorem c_L_thrown_16 {Γ : WC} (hN : HN Γ) (hC : NC Γ) {Z : Nat} {M : Mem} {a b9 c9 : Int32} {rM : Int32 × Mem} (hf : f_L_thrown_16 Z M a b9 c9 = some rM) : CtW Γ yL_thrown cL_thrown 6 (some .int) [(0, 21, 22, 124), (0, 21, 26, 126), (0, 21, 30, 128)] (rmL 8 1 6) [.ref (wad Γ 0), .int (16 : Int32), .int a, .int b9, .int c9] M (some (.int rM.1)) rM.2 := by
  refine mkW hN.1 (own := RL) rfl (by decide) (Nat.le_of_ble_eq_true rfl) (fun X C hT E => ?_)
  change G Γ X M 0 0 [some (.ref (wad Γ 0)), some (.int (16 : Int32)), some (.int a), some (.int b9), some (.int c9)] [] 0
  unfold f_L_thrown_16 at hf
  refine x_aload_n C rfl rfl (dkAt dk_L_thrown 0 rfl) 1 rfl ?_
  refine x_iload_n C rfl rfl (dkAt dk_L_thrown 1 rfl) 2 rfl ?_
  refine x_iload_n C rfl rfl (dkAt dk_L_thrown 2 rfl) 3 rfl ?_
  refine x_iload_n C rfl rfl (dkAt dk_L_thrown 3 rfl) 4 rfl ?_
  refine x_iload C rfl (dkAt dk_L_thrown 4 rfl) 6 rfl ?_
  refine h_cSl C hf (fun r hr => c_L_calls_16 hN hr) mw_L_calls ln_RL_118 ms_L_calls (ro_of (by decide) (by decide) (by decide) (by decide)) rfl rfl (Nat.le_of_ble_eq_true rfl) (dkAt dk_L_thrown 5 rfl) 9 rfl 1 6 rfl rfl (fun v M2 hf => nomatch hf) (fun e M3 hf => ?_)
  refine if_then hf (fun hE hf => ?_) (fun hE hf => ?_)
  · subst hE
    refine x_catch C hC hT [] ⟨0, 21, 22, 124⟩ [⟨0, 21, 26, 126⟩, ⟨0, 21, 30, 128⟩] rfl (fun _ h => nomatch h) (by decide) (by decide) (by decide) clk0 ckk0 (fun qa => ?_)
    refine x_astore C (L1 := [some (.ref (wad Γ 0)), some (.int (16 : Int32)), some (.int a), some (.int b9), some (.int c9), some (.ref qa)]) (dkAt dk_L_thrown 13 rfl) 24 rfl (by decide) rfl ?_
    refine x_iconst C (v := (1 : Int32)) (by decide) (dkAt dk_L_thrown 14 rfl) 25 rfl ?_
    exact x_iret C E hf (by decide) (by decide) (dkAt dk_L_thrown 15 rfl)
  · refine if_then hf (fun hE hf => ?_) (fun hE hf => ?_)
    · subst hE
      refine x_catch C hC hT [⟨0, 21, 22, 124⟩] ⟨0, 21, 26, 126⟩ [⟨0, 21, 30, 128⟩] rfl (List.forall_mem_cons.mpr ⟨⟨by decide, 0, by decide, by decide, clk0⟩, (fun _ h => nomatch h)⟩) (by decide) (by decide) (by decide) clk1 ckk1 (fun qa => ?_)
      refine x_astore C (L1 := [some (.ref (wad Γ 0)), some (.int (16 : Int32)), some (.int a), some (.int b9), some (.int c9), some (.ref qa)]) (dkAt dk_L_thrown 16 rfl) 28 rfl (by decide) rfl ?_
      refine x_iconst C (v := (2 : Int32)) (by decide) (dkAt dk_L_thrown 17 rfl) 29 rfl ?_
      exact x_iret C E hf (by decide) (by decide) (dkAt dk_L_thrown 18 rfl)
    · refine if_then hf (fun hE hf => ?_) (fun hE hf => ?_)
      · subst hE
        refine x_catch C hC hT [⟨0, 21, 22, 124⟩, ⟨0, 21, 26, 126⟩] ⟨0, 21, 30, 128⟩ [] rfl (List.forall_mem_cons.mpr ⟨⟨by decide, 0, by decide, by decide, clk0⟩, (List.forall_mem_cons.mpr ⟨⟨by decide, 1, by decide, by decide, clk1⟩, (fun _ h => nomatch h)⟩)⟩) (by decide) (by decide) (by decide) clk2 ckk2 (fun qa => ?_)
        refine x_astore C (L1 := [some (.ref (wad Γ 0)), some (.int (16 : Int32)), some (.int a), some (.int b9), some (.int c9), some (.ref qa)]) (dkAt dk_L_thrown 19 rfl) 32 rfl (by decide) rfl ?_
        refine x_iconst C (v := (3 : Int32)) (by decide) (dkAt dk_L_thrown 20 rfl) 33 rfl ?_
        exact x_iret C E hf (by decide) (by decide) (dkAt dk_L_thrown 21 rfl)
      · exact nomatch hf
def f_L_calls_14 (Z : Nat) (M : Mem) (a b9 c9 : Int32) : Option (Except Nat Int64 × Mem) := clT (f_X11_walked Z M a) (fun _ _ => none) pr
set_option maxRecDepth 100000 in
theorem c_L_calls_14 {Γ : WC} (hN : HN Γ) {Z : Nat} {M : Mem} {a b9 c9 : Int32} {rM : Except Nat Int64 × Mem} (hf : f_L_calls_14 Z M a b9 c9 = some rM) : CtT Γ yL_calls cL_calls 5 (some .long) (rmL 9 3 18) [.ref (wad Γ 0), .int (14 : Int32), .int a, .int b9, .int c9] M (fun v => some (.long v)) rM := by
  refine mkT hN.1 (own := RL) rfl (by decide) (Nat.le_of_ble_eq_true rfl) (fun X C E => ?_)
  change G Γ X M 0 0 [some (.ref (wad Γ 0)), some (.int (14 : Int32)), some (.int a), some (.int b9), some (.int c9)] [] 0
  unfold f_L_calls_14 at hf
  refine x_iload_n C rfl rfl (dkAt dk_L_calls 0 rfl) 1 rfl ?_
  refine x_tabIn C 238 (dkAt dk_L_calls 1 rfl) (n := 14) rfl (by decide) rfl (by decide) ?_
  refine x_aload_n C rfl rfl (dkAt dk_L_calls 84 rfl) 239 rfl ?_
  refine x_iload_n C rfl rfl (dkAt dk_L_calls 85 rfl) 240 rfl ?_
  exact t_cVi C E hf (fun r hr => c_X11_walked hN hr) mw_X11_walked ln_RL_80 (mi_X11_walked) (hN.rc (ci := 11) sh0 rc11) (ro_of (by decide) (by decide) (by decide) (by decide)) rfl rfl (Nat.le_of_ble_eq_true rfl) (dkAt dk_L_calls 86 rfl) 243 rfl 3 18 rfl rfl (by decide) (by decide) (fun v M2 hf => nomatch hf)
def f_L_thrown_14 (Z : Nat) (M : Mem) (a b9 c9 : Int32) : Option (Int32 × Mem) := clT (f_L_calls_14 Z M a b9 c9) (fun _ _ => none) (fun e M3 => if e = 0 then some (1, M3) else if e = 1 then some (2, M3) else if e = 2 then some (3, M3) else none)
set_option maxRecDepth 100000 in
theorem c_L_thrown_14 {Γ : WC} (hN : HN Γ) (hC : NC Γ) {Z : Nat} {M : Mem} {a b9 c9 : Int32} {rM : Int32 × Mem} (hf : f_L_thrown_14 Z M a b9 c9 = some rM) : CtW Γ yL_thrown cL_thrown 6 (some .int) [(0, 21, 22, 124), (0, 21, 26, 126), (0, 21, 30, 128)] (rmL 10 3 18) [.ref (wad Γ 0), .int (14 : Int32), .int a, .int b9, .int c9] M (some (.int rM.1)) rM.2 := by
  refine mkW hN.1 (own := RL) rfl (by decide) (Nat.le_of_ble_eq_true rfl) (fun X C hT E => ?_)
  change G Γ X M 0 0 [some (.ref (wad Γ 0)), some (.int (14 : Int32)), some (.int a), some (.int b9), some (.int c9)] [] 0
  unfold f_L_thrown_14 at hf
  refine x_aload_n C rfl rfl (dkAt dk_L_thrown 0 rfl) 1 rfl ?_
  refine x_iload_n C rfl rfl (dkAt dk_L_thrown 1 rfl) 2 rfl ?_
  refine x_iload_n C rfl rfl (dkAt dk_L_thrown 2 rfl) 3 rfl ?_
  refine x_iload_n C rfl rfl (dkAt dk_L_thrown 3 rfl) 4 rfl ?_
  refine x_iload C rfl (dkAt dk_L_thrown 4 rfl) 6 rfl ?_
  refine h_cSl C hf (fun r hr => c_L_calls_14 hN hr) mw_L_calls ln_RL_118 ms_L_calls (ro_of (by decide) (by decide) (by decide) (by decide)) rfl rfl (Nat.le_of_ble_eq_true rfl) (dkAt dk_L_thrown 5 rfl) 9 rfl 3 18 rfl rfl (fun v M2 hf => nomatch hf) (fun e M3 hf => ?_)
  refine if_then hf (fun hE hf => ?_) (fun hE hf => ?_)
  · subst hE
    refine x_catch C hC hT [] ⟨0, 21, 22, 124⟩ [⟨0, 21, 26, 126⟩, ⟨0, 21, 30, 128⟩] rfl (fun _ h => nomatch h) (by decide) (by decide) (by decide) clk0 ckk0 (fun qa => ?_)
    refine x_astore C (L1 := [some (.ref (wad Γ 0)), some (.int (14 : Int32)), some (.int a), some (.int b9), some (.int c9), some (.ref qa)]) (dkAt dk_L_thrown 13 rfl) 24 rfl (by decide) rfl ?_
    refine x_iconst C (v := (1 : Int32)) (by decide) (dkAt dk_L_thrown 14 rfl) 25 rfl ?_
    exact x_iret C E hf (by decide) (by decide) (dkAt dk_L_thrown 15 rfl)
  · refine if_then hf (fun hE hf => ?_) (fun hE hf => ?_)
    · subst hE
      refine x_catch C hC hT [⟨0, 21, 22, 124⟩] ⟨0, 21, 26, 126⟩ [⟨0, 21, 30, 128⟩] rfl (List.forall_mem_cons.mpr ⟨⟨by decide, 0, by decide, by decide, clk0⟩, (fun _ h => nomatch h)⟩) (by decide) (by decide) (by decide) clk1 ckk1 (fun qa => ?_)
      refine x_astore C (L1 := [some (.ref (wad Γ 0)), some (.int (14 : Int32)), some (.int a), some (.int b9), some (.int c9), some (.ref qa)]) (dkAt dk_L_thrown 16 rfl) 28 rfl (by decide) rfl ?_
      refine x_iconst C (v := (2 : Int32)) (by decide) (dkAt dk_L_thrown 17 rfl) 29 rfl ?_
      exact x_iret C E hf (by decide) (by decide) (dkAt dk_L_thrown 18 rfl)
    · refine if_then hf (fun hE hf => ?_) (fun hE hf => ?_)
      · subst hE
        refine x_catch C hC hT [⟨0, 21, 22, 124⟩, ⟨0, 21, 26, 126⟩] ⟨0, 21, 30, 128⟩ [] rfl (List.forall_mem_cons.mpr ⟨⟨by decide, 0, by decide, by decide, clk0⟩, (List.forall_mem_cons.mpr ⟨⟨by decide, 1, by decide, by decide, clk1⟩, (fun _ h => nomatch h)⟩)⟩) (by decide) (by decide) (by decide) clk2 ckk2 (fun qa => ?_)
        refine x_astore C (L1 := [some (.ref (wad Γ 0)), some (.int (14 : Int32)), some (.int a), some (.int b9), some (.int c9), some (.ref qa)]) (dkAt dk_L_thrown 19 rfl) 32 rfl (by decide) rfl ?_
        refine x_iconst C (v := (3 : Int32)) (by decide) (dkAt dk_L_thrown 20 rfl) 33 rfl ?_
        exact x_iret C E hf (by decide) (by decide) (dkAt dk_L_thrown 21 rfl)
      · exact nomatch hf
def f_L_calls_19 (Z : Nat) (M : Mem) (a b9 c9 : Int32) : Option (Except Nat Int64 × Mem) := clT (f_X11_permit Z M a b9 (0 : Int32)) (fun _ _ => none) pr
set_option maxRecDepth 100000 in
theorem c_L_calls_19 {Γ : WC} (hN : HN Γ) {Z : Nat} {M : Mem} {a b9 c9 : Int32} (hc9 : ¬ c9 = 1) {rM : Except Nat Int64 × Mem} (hf : f_L_calls_19 Z M a b9 c9 = some rM) : CtT Γ yL_calls cL_calls 5 (some .long) (rmL 10 4 24) [.ref (wad Γ 0), .int (19 : Int32), .int a, .int b9, .int c9] M (fun v => some (.long v)) rM := by
  refine mkT hN.1 (own := RL) rfl (by decide) (Nat.le_of_ble_eq_true rfl) (fun X C E => ?_)
  change G Γ X M 0 0 [some (.ref (wad Γ 0)), some (.int (19 : Int32)), some (.int a), some (.int b9), some (.int c9)] [] 0
  unfold f_L_calls_19 at hf
  refine x_iload_n C rfl rfl (dkAt dk_L_calls 0 rfl) 1 rfl ?_
  refine x_tabIn C 276 (dkAt dk_L_calls 1 rfl) (n := 19) rfl (by decide) rfl (by decide) ?_
  refine x_aload_n C rfl rfl (dkAt dk_L_calls 111 rfl) 277 rfl ?_
  refine x_iload_n C rfl rfl (dkAt dk_L_calls 112 rfl) 278 rfl ?_
  refine x_iload_n C rfl rfl (dkAt dk_L_calls 113 rfl) 279 rfl ?_
  refine x_iload C rfl (dkAt dk_L_calls 114 rfl) 281 rfl ?_
  refine x_iconst C (v := (1 : Int32)) (by decide) (dkAt dk_L_calls 115 rfl) 282 rfl ?_
  refine xcT_ne C hc9 289 (dkAt dk_L_calls 116 rfl) (by decide) ?_
  refine x_iconst C (v := (0 : Int32)) (by decide) (dkAt dk_L_calls 119 rfl) 290 rfl ?_
  exact t_cVi C E hf (fun r hr => c_X11_permit hN hr) mw_X11_permit ln_RL_96 (mi_X11_permit) (hN.rc (ci := 11) sh0 rc11) (ro_of (by decide) (by decide) (by decide) (by decide)) rfl rfl (Nat.le_of_ble_eq_true rfl) (dkAt dk_L_calls 120 rfl) 293 rfl 4 24 rfl rfl (by decide) (by decide) (fun v M2 hf => nomatch hf)
def f_L_thrown_19 (Z : Nat) (M : Mem) (a b9 c9 : Int32) : Option (Int32 × Mem) := clT (f_L_calls_19 Z M a b9 c9) (fun _ _ => none) (fun e M3 => if e = 0 then some (1, M3) else if e = 1 then some (2, M3) else if e = 2 then some (3, M3) else none)
set_option maxRecDepth 100000 in
theorem c_L_thrown_19 {Γ : WC} (hN : HN Γ) (hC : NC Γ) {Z : Nat} {M : Mem} {a b9 c9 : Int32} (hc9 : ¬ c9 = 1) {rM : Int32 × Mem} (hf : f_L_thrown_19 Z M a b9 c9 = some rM) : CtW Γ yL_thrown cL_thrown 6 (some .int) [(0, 21, 22, 124), (0, 21, 26, 126), (0, 21, 30, 128)] (rmL 11 4 24) [.ref (wad Γ 0), .int (19 : Int32), .int a, .int b9, .int c9] M (some (.int rM.1)) rM.2 := by
  refine mkW hN.1 (own := RL) rfl (by decide) (Nat.le_of_ble_eq_true rfl) (fun X C hT E => ?_)
  change G Γ X M 0 0 [some (.ref (wad Γ 0)), some (.int (19 : Int32)), some (.int a), some (.int b9), some (.int c9)] [] 0
  unfold f_L_thrown_19 at hf
  refine x_aload_n C rfl rfl (dkAt dk_L_thrown 0 rfl) 1 rfl ?_
  refine x_iload_n C rfl rfl (dkAt dk_L_thrown 1 rfl) 2 rfl ?_
  refine x_iload_n C rfl rfl (dkAt dk_L_thrown 2 rfl) 3 rfl ?_
  refine x_iload_n C rfl rfl (dkAt dk_L_thrown 3 rfl) 4 rfl ?_
  refine x_iload C rfl (dkAt dk_L_thrown 4 rfl) 6 rfl ?_
  refine h_cSl C hf (fun r hr => c_L_calls_19 hN hc9 hr) mw_L_calls ln_RL_118 ms_L_calls (ro_of (by decide) (by decide) (by decide) (by decide)) rfl rfl (Nat.le_of_ble_eq_true rfl) (dkAt dk_L_thrown 5 rfl) 9 rfl 4 24 rfl rfl (fun v M2 hf => nomatch hf) (fun e M3 hf => ?_)
  refine if_then hf (fun hE hf => ?_) (fun hE hf => ?_)
  · subst hE
    refine x_catch C hC hT [] ⟨0, 21, 22, 124⟩ [⟨0, 21, 26, 126⟩, ⟨0, 21, 30, 128⟩] rfl (fun _ h => nomatch h) (by decide) (by decide) (by decide) clk0 ckk0 (fun qa => ?_)
    refine x_astore C (L1 := [some (.ref (wad Γ 0)), some (.int (19 : Int32)), some (.int a), some (.int b9), some (.int c9), some (.ref qa)]) (dkAt dk_L_thrown 13 rfl) 24 rfl (by decide) rfl ?_
    refine x_iconst C (v := (1 : Int32)) (by decide) (dkAt dk_L_thrown 14 rfl) 25 rfl ?_
    exact x_iret C E hf (by decide) (by decide) (dkAt dk_L_thrown 15 rfl)
  · refine if_then hf (fun hE hf => ?_) (fun hE hf => ?_)
    · subst hE
      refine x_catch C hC hT [⟨0, 21, 22, 124⟩] ⟨0, 21, 26, 126⟩ [⟨0, 21, 30, 128⟩] rfl (List.forall_mem_cons.mpr ⟨⟨by decide, 0, by decide, by decide, clk0⟩, (fun _ h => nomatch h)⟩) (by decide) (by decide) (by decide) clk1 ckk1 (fun qa => ?_)
      refine x_astore C (L1 := [some (.ref (wad Γ 0)), some (.int (19 : Int32)), some (.int a), some (.int b9), some (.int c9), some (.ref qa)]) (dkAt dk_L_thrown 16 rfl) 28 rfl (by decide) rfl ?_
      refine x_iconst C (v := (2 : Int32)) (by decide) (dkAt dk_L_thrown 17 rfl) 29 rfl ?_
      exact x_iret C E hf (by decide) (by decide) (dkAt dk_L_thrown 18 rfl)
    · refine if_then hf (fun hE hf => ?_) (fun hE hf => ?_)
      · subst hE
        refine x_catch C hC hT [⟨0, 21, 22, 124⟩, ⟨0, 21, 26, 126⟩] ⟨0, 21, 30, 128⟩ [] rfl (List.forall_mem_cons.mpr ⟨⟨by decide, 0, by decide, by decide, clk0⟩, (List.forall_mem_cons.mpr ⟨⟨by decide, 1, by decide, by decide, clk1⟩, (fun _ h => nomatch h)⟩)⟩) (by decide) (by decide) (by decide) clk2 ckk2 (fun qa => ?_)
        refine x_astore C (L1 := [some (.ref (wad Γ 0)), some (.int (19 : Int32)), some (.int a), some (.int b9), some (.int c9), some (.ref qa)]) (dkAt dk_L_thrown 19 rfl) 32 rfl (by decide) rfl ?_
        refine x_iconst C (v := (3 : Int32)) (by decide) (dkAt dk_L_thrown 20 rfl) 33 rfl ?_
        exact x_iret C E hf (by decide) (by decide) (dkAt dk_L_thrown 21 rfl)
      · exact nomatch hf
def f_L_calls_4 (Z : Nat) (M : Mem) (a b9 c9 : Int32) : Option (Except Nat Int64 × Mem) := clT (f_X11_reach Z M a) (fun _ _ => none) pr
set_option maxRecDepth 100000 in
theorem c_L_calls_4 {Γ : WC} (hN : HN Γ) {Z : Nat} {M : Mem} {a b9 c9 : Int32} {rM : Except Nat Int64 × Mem} (hf : f_L_calls_4 Z M a b9 c9 = some rM) : CtT Γ yL_calls cL_calls 5 (some .long) (rmL 9 2 12) [.ref (wad Γ 0), .int (4 : Int32), .int a, .int b9, .int c9] M (fun v => some (.long v)) rM := by
  refine mkT hN.1 (own := RL) rfl (by decide) (Nat.le_of_ble_eq_true rfl) (fun X C E => ?_)
  change G Γ X M 0 0 [some (.ref (wad Γ 0)), some (.int (4 : Int32)), some (.int a), some (.int b9), some (.int c9)] [] 0
  unfold f_L_calls_4 at hf
  refine x_iload_n C rfl rfl (dkAt dk_L_calls 0 rfl) 1 rfl ?_
  refine x_tabIn C 155 (dkAt dk_L_calls 1 rfl) (n := 4) rfl (by decide) rfl (by decide) ?_
  refine x_aload_n C rfl rfl (dkAt dk_L_calls 27 rfl) 156 rfl ?_
  refine x_iload_n C rfl rfl (dkAt dk_L_calls 28 rfl) 157 rfl ?_
  exact t_cVi C E hf (fun r hr => c_X11_reach hN hr) mw_X11_reach ln_RL_47 (mi_X11_reach) (hN.rc (ci := 11) sh0 rc11) (ro_of (by decide) (by decide) (by decide) (by decide)) rfl rfl (Nat.le_of_ble_eq_true rfl) (dkAt dk_L_calls 29 rfl) 160 rfl 2 12 rfl rfl (by decide) (by decide) (fun v M2 hf => nomatch hf)
def f_L_thrown_4 (Z : Nat) (M : Mem) (a b9 c9 : Int32) : Option (Int32 × Mem) := clT (f_L_calls_4 Z M a b9 c9) (fun _ _ => none) (fun e M3 => if e = 0 then some (1, M3) else if e = 1 then some (2, M3) else if e = 2 then some (3, M3) else none)
set_option maxRecDepth 100000 in
theorem c_L_thrown_4 {Γ : WC} (hN : HN Γ) (hC : NC Γ) {Z : Nat} {M : Mem} {a b9 c9 : Int32} {rM : Int32 × Mem} (hf : f_L_thrown_4 Z M a b9 c9 = some rM) : CtW Γ yL_thrown cL_thrown 6 (some .int) [(0, 21, 22, 124), (0, 21, 26, 126), (0, 21, 30, 128)] (rmL 10 2 12) [.ref (wad Γ 0), .int (4 : Int32), .int a, .int b9, .int c9] M (some (.int rM.1)) rM.2 := by
  refine mkW hN.1 (own := RL) rfl (by decide) (Nat.le_of_ble_eq_true rfl) (fun X C hT E => ?_)
  change G Γ X M 0 0 [some (.ref (wad Γ 0)), some (.int (4 : Int32)), some (.int a), some (.int b9), some (.int c9)] [] 0
  unfold f_L_thrown_4 at hf
  refine x_aload_n C rfl rfl (dkAt dk_L_thrown 0 rfl) 1 rfl ?_
  refine x_iload_n C rfl rfl (dkAt dk_L_thrown 1 rfl) 2 rfl ?_
  refine x_iload_n C rfl rfl (dkAt dk_L_thrown 2 rfl) 3 rfl ?_
  refine x_iload_n C rfl rfl (dkAt dk_L_thrown 3 rfl) 4 rfl ?_
  refine x_iload C rfl (dkAt dk_L_thrown 4 rfl) 6 rfl ?_
  refine h_cSl C hf (fun r hr => c_L_calls_4 hN hr) mw_L_calls ln_RL_118 ms_L_calls (ro_of (by decide) (by decide) (by decide) (by decide)) rfl rfl (Nat.le_of_ble_eq_true rfl) (dkAt dk_L_thrown 5 rfl) 9 rfl 2 12 rfl rfl (fun v M2 hf => nomatch hf) (fun e M3 hf => ?_)
  refine if_then hf (fun hE hf => ?_) (fun hE hf => ?_)
  · subst hE
    refine x_catch C hC hT [] ⟨0, 21, 22, 124⟩ [⟨0, 21, 26, 126⟩, ⟨0, 21, 30, 128⟩] rfl (fun _ h => nomatch h) (by decide) (by decide) (by decide) clk0 ckk0 (fun qa => ?_)
    refine x_astore C (L1 := [some (.ref (wad Γ 0)), some (.int (4 : Int32)), some (.int a), some (.int b9), some (.int c9), some (.ref qa)]) (dkAt dk_L_thrown 13 rfl) 24 rfl (by decide) rfl ?_
    refine x_iconst C (v := (1 : Int32)) (by decide) (dkAt dk_L_thrown 14 rfl) 25 rfl ?_
    exact x_iret C E hf (by decide) (by decide) (dkAt dk_L_thrown 15 rfl)
  · refine if_then hf (fun hE hf => ?_) (fun hE hf => ?_)
    · subst hE
      refine x_catch C hC hT [⟨0, 21, 22, 124⟩] ⟨0, 21, 26, 126⟩ [⟨0, 21, 30, 128⟩] rfl (List.forall_mem_cons.mpr ⟨⟨by decide, 0, by decide, by decide, clk0⟩, (fun _ h => nomatch h)⟩) (by decide) (by decide) (by decide) clk1 ckk1 (fun qa => ?_)
      refine x_astore C (L1 := [some (.ref (wad Γ 0)), some (.int (4 : Int32)), some (.int a), some (.int b9), some (.int c9), some (.ref qa)]) (dkAt dk_L_thrown 16 rfl) 28 rfl (by decide) rfl ?_
      refine x_iconst C (v := (2 : Int32)) (by decide) (dkAt dk_L_thrown 17 rfl) 29 rfl ?_
      exact x_iret C E hf (by decide) (by decide) (dkAt dk_L_thrown 18 rfl)
    · refine if_then hf (fun hE hf => ?_) (fun hE hf => ?_)
      · subst hE
        refine x_catch C hC hT [⟨0, 21, 22, 124⟩, ⟨0, 21, 26, 126⟩] ⟨0, 21, 30, 128⟩ [] rfl (List.forall_mem_cons.mpr ⟨⟨by decide, 0, by decide, by decide, clk0⟩, (List.forall_mem_cons.mpr ⟨⟨by decide, 1, by decide, by decide, clk1⟩, (fun _ h => nomatch h)⟩)⟩) (by decide) (by decide) (by decide) clk2 ckk2 (fun qa => ?_)
        refine x_astore C (L1 := [some (.ref (wad Γ 0)), some (.int (4 : Int32)), some (.int a), some (.int b9), some (.int c9), some (.ref qa)]) (dkAt dk_L_thrown 19 rfl) 32 rfl (by decide) rfl ?_
        refine x_iconst C (v := (3 : Int32)) (by decide) (dkAt dk_L_thrown 20 rfl) 33 rfl ?_
        exact x_iret C E hf (by decide) (by decide) (dkAt dk_L_thrown 21 rfl)
      · exact nomatch hf
def f_L_calls_6 (Z : Nat) (M : Mem) (a b9 c9 : Int32) : Option (Except Nat Int64 × Mem) := clT (f_X11_flow Z M a b9) (fun _ _ => none) pr
set_option maxRecDepth 100000 in
theorem c_L_calls_6 {Γ : WC} (hN : HN Γ) {Z : Nat} {M : Mem} {a b9 c9 : Int32} {rM : Except Nat Int64 × Mem} (hf : f_L_calls_6 Z M a b9 c9 = some rM) : CtT Γ yL_calls cL_calls 5 (some .long) (rmL 9 4 24) [.ref (wad Γ 0), .int (6 : Int32), .int a, .int b9, .int c9] M (fun v => some (.long v)) rM := by
  refine mkT hN.1 (own := RL) rfl (by decide) (Nat.le_of_ble_eq_true rfl) (fun X C E => ?_)
  change G Γ X M 0 0 [some (.ref (wad Γ 0)), some (.int (6 : Int32)), some (.int a), some (.int b9), some (.int c9)] [] 0
  unfold f_L_calls_6 at hf
  refine x_iload_n C rfl rfl (dkAt dk_L_calls 0 rfl) 1 rfl ?_
  refine x_tabIn C 176 (dkAt dk_L_calls 1 rfl) (n := 6) rfl (by decide) rfl (by decide) ?_
  refine x_aload_n C rfl rfl (dkAt dk_L_calls 40 rfl) 177 rfl ?_
  refine x_iload_n C rfl rfl (dkAt dk_L_calls 41 rfl) 178 rfl ?_
  refine x_iload_n C rfl rfl (dkAt dk_L_calls 42 rfl) 179 rfl ?_
  exact t_cVl C E hf (fun r hr => c_X11_flow hN hr) mw_X11_flow ln_RL_54 (mi_X11_flow) (hN.rc (ci := 11) sh0 rc11) (ro_of (by decide) (by decide) (by decide) (by decide)) rfl rfl (Nat.le_of_ble_eq_true rfl) (dkAt dk_L_calls 43 rfl) 182 rfl 4 24 rfl rfl (by decide) (by decide) (fun v M2 hf => nomatch hf)
def f_L_thrown_6 (Z : Nat) (M : Mem) (a b9 c9 : Int32) : Option (Int32 × Mem) := clT (f_L_calls_6 Z M a b9 c9) (fun _ _ => none) (fun e M3 => if e = 0 then some (1, M3) else if e = 1 then some (2, M3) else if e = 2 then some (3, M3) else none)
set_option maxRecDepth 100000 in
theorem c_L_thrown_6 {Γ : WC} (hN : HN Γ) (hC : NC Γ) {Z : Nat} {M : Mem} {a b9 c9 : Int32} {rM : Int32 × Mem} (hf : f_L_thrown_6 Z M a b9 c9 = some rM) : CtW Γ yL_thrown cL_thrown 6 (some .int) [(0, 21, 22, 124), (0, 21, 26, 126), (0, 21, 30, 128)] (rmL 10 4 24) [.ref (wad Γ 0), .int (6 : Int32), .int a, .int b9, .int c9] M (some (.int rM.1)) rM.2 := by
  refine mkW hN.1 (own := RL) rfl (by decide) (Nat.le_of_ble_eq_true rfl) (fun X C hT E => ?_)
  change G Γ X M 0 0 [some (.ref (wad Γ 0)), some (.int (6 : Int32)), some (.int a), some (.int b9), some (.int c9)] [] 0
  unfold f_L_thrown_6 at hf
  refine x_aload_n C rfl rfl (dkAt dk_L_thrown 0 rfl) 1 rfl ?_
  refine x_iload_n C rfl rfl (dkAt dk_L_thrown 1 rfl) 2 rfl ?_
  refine x_iload_n C rfl rfl (dkAt dk_L_thrown 2 rfl) 3 rfl ?_
  refine x_iload_n C rfl rfl (dkAt dk_L_thrown 3 rfl) 4 rfl ?_
  refine x_iload C rfl (dkAt dk_L_thrown 4 rfl) 6 rfl ?_
  refine h_cSl C hf (fun r hr => c_L_calls_6 hN hr) mw_L_calls ln_RL_118 ms_L_calls (ro_of (by decide) (by decide) (by decide) (by decide)) rfl rfl (Nat.le_of_ble_eq_true rfl) (dkAt dk_L_thrown 5 rfl) 9 rfl 4 24 rfl rfl (fun v M2 hf => nomatch hf) (fun e M3 hf => ?_)
  refine if_then hf (fun hE hf => ?_) (fun hE hf => ?_)
  · subst hE
    refine x_catch C hC hT [] ⟨0, 21, 22, 124⟩ [⟨0, 21, 26, 126⟩, ⟨0, 21, 30, 128⟩] rfl (fun _ h => nomatch h) (by decide) (by decide) (by decide) clk0 ckk0 (fun qa => ?_)
    refine x_astore C (L1 := [some (.ref (wad Γ 0)), some (.int (6 : Int32)), some (.int a), some (.int b9), some (.int c9), some (.ref qa)]) (dkAt dk_L_thrown 13 rfl) 24 rfl (by decide) rfl ?_
    refine x_iconst C (v := (1 : Int32)) (by decide) (dkAt dk_L_thrown 14 rfl) 25 rfl ?_
    exact x_iret C E hf (by decide) (by decide) (dkAt dk_L_thrown 15 rfl)
  · refine if_then hf (fun hE hf => ?_) (fun hE hf => ?_)
    · subst hE
      refine x_catch C hC hT [⟨0, 21, 22, 124⟩] ⟨0, 21, 26, 126⟩ [⟨0, 21, 30, 128⟩] rfl (List.forall_mem_cons.mpr ⟨⟨by decide, 0, by decide, by decide, clk0⟩, (fun _ h => nomatch h)⟩) (by decide) (by decide) (by decide) clk1 ckk1 (fun qa => ?_)
      refine x_astore C (L1 := [some (.ref (wad Γ 0)), some (.int (6 : Int32)), some (.int a), some (.int b9), some (.int c9), some (.ref qa)]) (dkAt dk_L_thrown 16 rfl) 28 rfl (by decide) rfl ?_
      refine x_iconst C (v := (2 : Int32)) (by decide) (dkAt dk_L_thrown 17 rfl) 29 rfl ?_
      exact x_iret C E hf (by decide) (by decide) (dkAt dk_L_thrown 18 rfl)
    · refine if_then hf (fun hE hf => ?_) (fun hE hf => ?_)
      · subst hE
        refine x_catch C hC hT [⟨0, 21, 22, 124⟩, ⟨0, 21, 26, 126⟩] ⟨0, 21, 30, 128⟩ [] rfl (List.forall_mem_cons.mpr ⟨⟨by decide, 0, by decide, by decide, clk0⟩, (List.forall_mem_cons.mpr ⟨⟨by decide, 1, by decide, by decide, clk1⟩, (fun _ h => nomatch h)⟩)⟩) (by decide) (by decide) (by decide) clk2 ckk2 (fun qa => ?_)
        refine x_astore C (L1 := [some (.ref (wad Γ 0)), some (.int (6 : Int32)), some (.int a), some (.int b9), some (.int c9), some (.ref qa)]) (dkAt dk_L_thrown 19 rfl) 32 rfl (by decide) rfl ?_
        refine x_iconst C (v := (3 : Int32)) (by decide) (dkAt dk_L_thrown 20 rfl) 33 rfl ?_
        exact x_iret C E hf (by decide) (by decide) (dkAt dk_L_thrown 21 rfl)
      · exact nomatch hf
def f_L_calls_7 (Z : Nat) (M : Mem) (a b9 c9 : Int32) : Option (Except Nat Int64 × Mem) := clT (f_X11_use Z M a b9 c9) (fun _ _ => none) pr
set_option maxRecDepth 100000 in
theorem c_L_calls_7 {Γ : WC} (hN : HN Γ) {Z : Nat} {M : Mem} {a b9 c9 : Int32} {rM : Except Nat Int64 × Mem} (hf : f_L_calls_7 Z M a b9 c9 = some rM) : CtT Γ yL_calls cL_calls 5 (some .long) (rmL 10 4 24) [.ref (wad Γ 0), .int (7 : Int32), .int a, .int b9, .int c9] M (fun v => some (.long v)) rM := by
  refine mkT hN.1 (own := RL) rfl (by decide) (Nat.le_of_ble_eq_true rfl) (fun X C E => ?_)
  change G Γ X M 0 0 [some (.ref (wad Γ 0)), some (.int (7 : Int32)), some (.int a), some (.int b9), some (.int c9)] [] 0
  unfold f_L_calls_7 at hf
  refine x_iload_n C rfl rfl (dkAt dk_L_calls 0 rfl) 1 rfl ?_
  refine x_tabIn C 183 (dkAt dk_L_calls 1 rfl) (n := 7) rfl (by decide) rfl (by decide) ?_
  refine x_aload_n C rfl rfl (dkAt dk_L_calls 45 rfl) 184 rfl ?_
  refine x_iload_n C rfl rfl (dkAt dk_L_calls 46 rfl) 185 rfl ?_
  refine x_iload_n C rfl rfl (dkAt dk_L_calls 47 rfl) 186 rfl ?_
  refine x_iload C rfl (dkAt dk_L_calls 48 rfl) 188 rfl ?_
  exact t_cVl C E hf (fun r hr => c_X11_use hN hr) mw_X11_use ln_RL_58 (mi_X11_use) (hN.rc (ci := 11) sh0 rc11) (ro_of (by decide) (by decide) (by decide) (by decide)) rfl rfl (Nat.le_of_ble_eq_true rfl) (dkAt dk_L_calls 49 rfl) 191 rfl 4 24 rfl rfl (by decide) (by decide) (fun v M2 hf => nomatch hf)
def f_L_thrown_7 (Z : Nat) (M : Mem) (a b9 c9 : Int32) : Option (Int32 × Mem) := clT (f_L_calls_7 Z M a b9 c9) (fun _ _ => none) (fun e M3 => if e = 0 then some (1, M3) else if e = 1 then some (2, M3) else if e = 2 then some (3, M3) else none)
set_option maxRecDepth 100000 in
theorem c_L_thrown_7 {Γ : WC} (hN : HN Γ) (hC : NC Γ) {Z : Nat} {M : Mem} {a b9 c9 : Int32} {rM : Int32 × Mem} (hf : f_L_thrown_7 Z M a b9 c9 = some rM) : CtW Γ yL_thrown cL_thrown 6 (some .int) [(0, 21, 22, 124), (0, 21, 26, 126), (0, 21, 30, 128)] (rmL 11 4 24) [.ref (wad Γ 0), .int (7 : Int32), .int a, .int b9, .int c9] M (some (.int rM.1)) rM.2 := by
  refine mkW hN.1 (own := RL) rfl (by decide) (Nat.le_of_ble_eq_true rfl) (fun X C hT E => ?_)
  change G Γ X M 0 0 [some (.ref (wad Γ 0)), some (.int (7 : Int32)), some (.int a), some (.int b9), some (.int c9)] [] 0
  unfold f_L_thrown_7 at hf
  refine x_aload_n C rfl rfl (dkAt dk_L_thrown 0 rfl) 1 rfl ?_
  refine x_iload_n C rfl rfl (dkAt dk_L_thrown 1 rfl) 2 rfl ?_
  refine x_iload_n C rfl rfl (dkAt dk_L_thrown 2 rfl) 3 rfl ?_
  refine x_iload_n C rfl rfl (dkAt dk_L_thrown 3 rfl) 4 rfl ?_
  refine x_iload C rfl (dkAt dk_L_thrown 4 rfl) 6 rfl ?_
  refine h_cSl C hf (fun r hr => c_L_calls_7 hN hr) mw_L_calls ln_RL_118 ms_L_calls (ro_of (by decide) (by decide) (by decide) (by decide)) rfl rfl (Nat.le_of_ble_eq_true rfl) (dkAt dk_L_thrown 5 rfl) 9 rfl 4 24 rfl rfl (fun v M2 hf => nomatch hf) (fun e M3 hf => ?_)
  refine if_then hf (fun hE hf => ?_) (fun hE hf => ?_)
  · subst hE
    refine x_catch C hC hT [] ⟨0, 21, 22, 124⟩ [⟨0, 21, 26, 126⟩, ⟨0, 21, 30, 128⟩] rfl (fun _ h => nomatch h) (by decide) (by decide) (by decide) clk0 ckk0 (fun qa => ?_)
    refine x_astore C (L1 := [some (.ref (wad Γ 0)), some (.int (7 : Int32)), some (.int a), some (.int b9), some (.int c9), some (.ref qa)]) (dkAt dk_L_thrown 13 rfl) 24 rfl (by decide) rfl ?_
    refine x_iconst C (v := (1 : Int32)) (by decide) (dkAt dk_L_thrown 14 rfl) 25 rfl ?_
    exact x_iret C E hf (by decide) (by decide) (dkAt dk_L_thrown 15 rfl)
  · refine if_then hf (fun hE hf => ?_) (fun hE hf => ?_)
    · subst hE
      refine x_catch C hC hT [⟨0, 21, 22, 124⟩] ⟨0, 21, 26, 126⟩ [⟨0, 21, 30, 128⟩] rfl (List.forall_mem_cons.mpr ⟨⟨by decide, 0, by decide, by decide, clk0⟩, (fun _ h => nomatch h)⟩) (by decide) (by decide) (by decide) clk1 ckk1 (fun qa => ?_)
      refine x_astore C (L1 := [some (.ref (wad Γ 0)), some (.int (7 : Int32)), some (.int a), some (.int b9), some (.int c9), some (.ref qa)]) (dkAt dk_L_thrown 16 rfl) 28 rfl (by decide) rfl ?_
      refine x_iconst C (v := (2 : Int32)) (by decide) (dkAt dk_L_thrown 17 rfl) 29 rfl ?_
      exact x_iret C E hf (by decide) (by decide) (dkAt dk_L_thrown 18 rfl)
    · refine if_then hf (fun hE hf => ?_) (fun hE hf => ?_)
      · subst hE
        refine x_catch C hC hT [⟨0, 21, 22, 124⟩, ⟨0, 21, 26, 126⟩] ⟨0, 21, 30, 128⟩ [] rfl (List.forall_mem_cons.mpr ⟨⟨by decide, 0, by decide, by decide, clk0⟩, (List.forall_mem_cons.mpr ⟨⟨by decide, 1, by decide, by decide, clk1⟩, (fun _ h => nomatch h)⟩)⟩) (by decide) (by decide) (by decide) clk2 ckk2 (fun qa => ?_)
        refine x_astore C (L1 := [some (.ref (wad Γ 0)), some (.int (7 : Int32)), some (.int a), some (.int b9), some (.int c9), some (.ref qa)]) (dkAt dk_L_thrown 19 rfl) 32 rfl (by decide) rfl ?_
        refine x_iconst C (v := (3 : Int32)) (by decide) (dkAt dk_L_thrown 20 rfl) 33 rfl ?_
        exact x_iret C E hf (by decide) (by decide) (dkAt dk_L_thrown 21 rfl)
      · exact nomatch hf
def f_L_calls_8 (Z : Nat) (M : Mem) (a b9 c9 : Int32) : Option (Except Nat Int64 × Mem) := clT (f_X11_busiest Z M a) (fun _ _ => none) pr
set_option maxRecDepth 100000 in
theorem c_L_calls_8 {Γ : WC} (hN : HN Γ) {Z : Nat} {M : Mem} {a b9 c9 : Int32} {rM : Except Nat Int64 × Mem} (hf : f_L_calls_8 Z M a b9 c9 = some rM) : CtT Γ yL_calls cL_calls 5 (some .long) (rmL 9 2 12) [.ref (wad Γ 0), .int (8 : Int32), .int a, .int b9, .int c9] M (fun v => some (.long v)) rM := by
  refine mkT hN.1 (own := RL) rfl (by decide) (Nat.le_of_ble_eq_true rfl) (fun X C E => ?_)
  change G Γ X M 0 0 [some (.ref (wad Γ 0)), some (.int (8 : Int32)), some (.int a), some (.int b9), some (.int c9)] [] 0
  unfold f_L_calls_8 at hf
  refine x_iload_n C rfl rfl (dkAt dk_L_calls 0 rfl) 1 rfl ?_
  refine x_tabIn C 192 (dkAt dk_L_calls 1 rfl) (n := 8) rfl (by decide) rfl (by decide) ?_
  refine x_aload_n C rfl rfl (dkAt dk_L_calls 51 rfl) 193 rfl ?_
  refine x_iload_n C rfl rfl (dkAt dk_L_calls 52 rfl) 194 rfl ?_
  exact t_cVi C E hf (fun r hr => c_X11_busiest hN hr) mw_X11_busiest ln_RL_62 (mi_X11_busiest) (hN.rc (ci := 11) sh0 rc11) (ro_of (by decide) (by decide) (by decide) (by decide)) rfl rfl (Nat.le_of_ble_eq_true rfl) (dkAt dk_L_calls 53 rfl) 197 rfl 2 12 rfl rfl (by decide) (by decide) (fun v M2 hf => nomatch hf)
def f_L_thrown_8 (Z : Nat) (M : Mem) (a b9 c9 : Int32) : Option (Int32 × Mem) := clT (f_L_calls_8 Z M a b9 c9) (fun _ _ => none) (fun e M3 => if e = 0 then some (1, M3) else if e = 1 then some (2, M3) else if e = 2 then some (3, M3) else none)
set_option maxRecDepth 100000 in
theorem c_L_thrown_8 {Γ : WC} (hN : HN Γ) (hC : NC Γ) {Z : Nat} {M : Mem} {a b9 c9 : Int32} {rM : Int32 × Mem} (hf : f_L_thrown_8 Z M a b9 c9 = some rM) : CtW Γ yL_thrown cL_thrown 6 (some .int) [(0, 21, 22, 124), (0, 21, 26, 126), (0, 21, 30, 128)] (rmL 10 2 12) [.ref (wad Γ 0), .int (8 : Int32), .int a, .int b9, .int c9] M (some (.int rM.1)) rM.2 := by
  refine mkW hN.1 (own := RL) rfl (by decide) (Nat.le_of_ble_eq_true rfl) (fun X C hT E => ?_)
  change G Γ X M 0 0 [some (.ref (wad Γ 0)), some (.int (8 : Int32)), some (.int a), some (.int b9), some (.int c9)] [] 0
  unfold f_L_thrown_8 at hf
  refine x_aload_n C rfl rfl (dkAt dk_L_thrown 0 rfl) 1 rfl ?_
  refine x_iload_n C rfl rfl (dkAt dk_L_thrown 1 rfl) 2 rfl ?_
  refine x_iload_n C rfl rfl (dkAt dk_L_thrown 2 rfl) 3 rfl ?_
  refine x_iload_n C rfl rfl (dkAt dk_L_thrown 3 rfl) 4 rfl ?_
  refine x_iload C rfl (dkAt dk_L_thrown 4 rfl) 6 rfl ?_
  refine h_cSl C hf (fun r hr => c_L_calls_8 hN hr) mw_L_calls ln_RL_118 ms_L_calls (ro_of (by decide) (by decide) (by decide) (by decide)) rfl rfl (Nat.le_of_ble_eq_true rfl) (dkAt dk_L_thrown 5 rfl) 9 rfl 2 12 rfl rfl (fun v M2 hf => nomatch hf) (fun e M3 hf => ?_)
  refine if_then hf (fun hE hf => ?_) (fun hE hf => ?_)
  · subst hE
    refine x_catch C hC hT [] ⟨0, 21, 22, 124⟩ [⟨0, 21, 26, 126⟩, ⟨0, 21, 30, 128⟩] rfl (fun _ h => nomatch h) (by decide) (by decide) (by decide) clk0 ckk0 (fun qa => ?_)
    refine x_astore C (L1 := [some (.ref (wad Γ 0)), some (.int (8 : Int32)), some (.int a), some (.int b9), some (.int c9), some (.ref qa)]) (dkAt dk_L_thrown 13 rfl) 24 rfl (by decide) rfl ?_
    refine x_iconst C (v := (1 : Int32)) (by decide) (dkAt dk_L_thrown 14 rfl) 25 rfl ?_
    exact x_iret C E hf (by decide) (by decide) (dkAt dk_L_thrown 15 rfl)
  · refine if_then hf (fun hE hf => ?_) (fun hE hf => ?_)
    · subst hE
      refine x_catch C hC hT [⟨0, 21, 22, 124⟩] ⟨0, 21, 26, 126⟩ [⟨0, 21, 30, 128⟩] rfl (List.forall_mem_cons.mpr ⟨⟨by decide, 0, by decide, by decide, clk0⟩, (fun _ h => nomatch h)⟩) (by decide) (by decide) (by decide) clk1 ckk1 (fun qa => ?_)
      refine x_astore C (L1 := [some (.ref (wad Γ 0)), some (.int (8 : Int32)), some (.int a), some (.int b9), some (.int c9), some (.ref qa)]) (dkAt dk_L_thrown 16 rfl) 28 rfl (by decide) rfl ?_
      refine x_iconst C (v := (2 : Int32)) (by decide) (dkAt dk_L_thrown 17 rfl) 29 rfl ?_
      exact x_iret C E hf (by decide) (by decide) (dkAt dk_L_thrown 18 rfl)
    · refine if_then hf (fun hE hf => ?_) (fun hE hf => ?_)
      · subst hE
        refine x_catch C hC hT [⟨0, 21, 22, 124⟩, ⟨0, 21, 26, 126⟩] ⟨0, 21, 30, 128⟩ [] rfl (List.forall_mem_cons.mpr ⟨⟨by decide, 0, by decide, by decide, clk0⟩, (List.forall_mem_cons.mpr ⟨⟨by decide, 1, by decide, by decide, clk1⟩, (fun _ h => nomatch h)⟩)⟩) (by decide) (by decide) (by decide) clk2 ckk2 (fun qa => ?_)
        refine x_astore C (L1 := [some (.ref (wad Γ 0)), some (.int (8 : Int32)), some (.int a), some (.int b9), some (.int c9), some (.ref qa)]) (dkAt dk_L_thrown 19 rfl) 32 rfl (by decide) rfl ?_
        refine x_iconst C (v := (3 : Int32)) (by decide) (dkAt dk_L_thrown 20 rfl) 33 rfl ?_
        exact x_iret C E hf (by decide) (by decide) (dkAt dk_L_thrown 21 rfl)
      · exact nomatch hf
def f_L_calls_3 (Z : Nat) (M : Mem) (a b9 c9 : Int32) : Option (Except Nat Int64 × Mem) := clT (f_X11_limit Z M a) (fun _ _ => none) pr
set_option maxRecDepth 100000 in
theorem c_L_calls_3 {Γ : WC} (hN : HN Γ) {Z : Nat} {M : Mem} {a b9 c9 : Int32} {rM : Except Nat Int64 × Mem} (hf : f_L_calls_3 Z M a b9 c9 = some rM) : CtT Γ yL_calls cL_calls 5 (some .long) (rmL 9 2 12) [.ref (wad Γ 0), .int (3 : Int32), .int a, .int b9, .int c9] M (fun v => some (.long v)) rM := by
  refine mkT hN.1 (own := RL) rfl (by decide) (Nat.le_of_ble_eq_true rfl) (fun X C E => ?_)
  change G Γ X M 0 0 [some (.ref (wad Γ 0)), some (.int (3 : Int32)), some (.int a), some (.int b9), some (.int c9)] [] 0
  unfold f_L_calls_3 at hf
  refine x_iload_n C rfl rfl (dkAt dk_L_calls 0 rfl) 1 rfl ?_
  refine x_tabIn C 148 (dkAt dk_L_calls 1 rfl) (n := 3) rfl (by decide) rfl (by decide) ?_
  refine x_aload_n C rfl rfl (dkAt dk_L_calls 22 rfl) 149 rfl ?_
  refine x_iload_n C rfl rfl (dkAt dk_L_calls 23 rfl) 150 rfl ?_
  exact t_cVi C E hf (fun r hr => c_X11_limit hN hr) mw_X11_limit ln_RL_44 (mi_X11_limit) (hN.rc (ci := 11) sh0 rc11) (ro_of (by decide) (by decide) (by decide) (by decide)) rfl rfl (Nat.le_of_ble_eq_true rfl) (dkAt dk_L_calls 24 rfl) 153 rfl 2 12 rfl rfl (by decide) (by decide) (fun v M2 hf => nomatch hf)
def f_L_thrown_3 (Z : Nat) (M : Mem) (a b9 c9 : Int32) : Option (Int32 × Mem) := clT (f_L_calls_3 Z M a b9 c9) (fun _ _ => none) (fun e M3 => if e = 0 then some (1, M3) else if e = 1 then some (2, M3) else if e = 2 then some (3, M3) else none)
set_option maxRecDepth 100000 in
theorem c_L_thrown_3 {Γ : WC} (hN : HN Γ) (hC : NC Γ) {Z : Nat} {M : Mem} {a b9 c9 : Int32} {rM : Int32 × Mem} (hf : f_L_thrown_3 Z M a b9 c9 = some rM) : CtW Γ yL_thrown cL_thrown 6 (some .int) [(0, 21, 22, 124), (0, 21, 26, 126), (0, 21, 30, 128)] (rmL 10 2 12) [.ref (wad Γ 0), .int (3 : Int32), .int a, .int b9, .int c9] M (some (.int rM.1)) rM.2 := by
  refine mkW hN.1 (own := RL) rfl (by decide) (Nat.le_of_ble_eq_true rfl) (fun X C hT E => ?_)
  change G Γ X M 0 0 [some (.ref (wad Γ 0)), some (.int (3 : Int32)), some (.int a), some (.int b9), some (.int c9)] [] 0
  unfold f_L_thrown_3 at hf
  refine x_aload_n C rfl rfl (dkAt dk_L_thrown 0 rfl) 1 rfl ?_
  refine x_iload_n C rfl rfl (dkAt dk_L_thrown 1 rfl) 2 rfl ?_
  refine x_iload_n C rfl rfl (dkAt dk_L_thrown 2 rfl) 3 rfl ?_
  refine x_iload_n C rfl rfl (dkAt dk_L_thrown 3 rfl) 4 rfl ?_
  refine x_iload C rfl (dkAt dk_L_thrown 4 rfl) 6 rfl ?_
  refine h_cSl C hf (fun r hr => c_L_calls_3 hN hr) mw_L_calls ln_RL_118 ms_L_calls (ro_of (by decide) (by decide) (by decide) (by decide)) rfl rfl (Nat.le_of_ble_eq_true rfl) (dkAt dk_L_thrown 5 rfl) 9 rfl 2 12 rfl rfl (fun v M2 hf => nomatch hf) (fun e M3 hf => ?_)
  refine if_then hf (fun hE hf => ?_) (fun hE hf => ?_)
  · subst hE
    refine x_catch C hC hT [] ⟨0, 21, 22, 124⟩ [⟨0, 21, 26, 126⟩, ⟨0, 21, 30, 128⟩] rfl (fun _ h => nomatch h) (by decide) (by decide) (by decide) clk0 ckk0 (fun qa => ?_)
    refine x_astore C (L1 := [some (.ref (wad Γ 0)), some (.int (3 : Int32)), some (.int a), some (.int b9), some (.int c9), some (.ref qa)]) (dkAt dk_L_thrown 13 rfl) 24 rfl (by decide) rfl ?_
    refine x_iconst C (v := (1 : Int32)) (by decide) (dkAt dk_L_thrown 14 rfl) 25 rfl ?_
    exact x_iret C E hf (by decide) (by decide) (dkAt dk_L_thrown 15 rfl)
  · refine if_then hf (fun hE hf => ?_) (fun hE hf => ?_)
    · subst hE
      refine x_catch C hC hT [⟨0, 21, 22, 124⟩] ⟨0, 21, 26, 126⟩ [⟨0, 21, 30, 128⟩] rfl (List.forall_mem_cons.mpr ⟨⟨by decide, 0, by decide, by decide, clk0⟩, (fun _ h => nomatch h)⟩) (by decide) (by decide) (by decide) clk1 ckk1 (fun qa => ?_)
      refine x_astore C (L1 := [some (.ref (wad Γ 0)), some (.int (3 : Int32)), some (.int a), some (.int b9), some (.int c9), some (.ref qa)]) (dkAt dk_L_thrown 16 rfl) 28 rfl (by decide) rfl ?_
      refine x_iconst C (v := (2 : Int32)) (by decide) (dkAt dk_L_thrown 17 rfl) 29 rfl ?_
      exact x_iret C E hf (by decide) (by decide) (dkAt dk_L_thrown 18 rfl)
    · refine if_then hf (fun hE hf => ?_) (fun hE hf => ?_)
      · subst hE
        refine x_catch C hC hT [⟨0, 21, 22, 124⟩, ⟨0, 21, 26, 126⟩] ⟨0, 21, 30, 128⟩ [] rfl (List.forall_mem_cons.mpr ⟨⟨by decide, 0, by decide, by decide, clk0⟩, (List.forall_mem_cons.mpr ⟨⟨by decide, 1, by decide, by decide, clk1⟩, (fun _ h => nomatch h)⟩)⟩) (by decide) (by decide) (by decide) clk2 ckk2 (fun qa => ?_)
        refine x_astore C (L1 := [some (.ref (wad Γ 0)), some (.int (3 : Int32)), some (.int a), some (.int b9), some (.int c9), some (.ref qa)]) (dkAt dk_L_thrown 19 rfl) 32 rfl (by decide) rfl ?_
        refine x_iconst C (v := (3 : Int32)) (by decide) (dkAt dk_L_thrown 20 rfl) 33 rfl ?_
        exact x_iret C E hf (by decide) (by decide) (dkAt dk_L_thrown 21 rfl)
      · exact nomatch hf
def f_L_calls_2 (Z : Nat) (M : Mem) (a b9 c9 : Int32) : Option (Except Nat Int64 × Mem) := clT (f_X11_percent Z M a b9 c9) (fun _ _ => none) pr
set_option maxRecDepth 100000 in
theorem c_L_calls_2 {Γ : WC} (hN : HN Γ) {Z : Nat} {M : Mem} {a b9 c9 : Int32} {rM : Except Nat Int64 × Mem} (hf : f_L_calls_2 Z M a b9 c9 = some rM) : CtT Γ yL_calls cL_calls 5 (some .long) (rmL 10 5 30) [.ref (wad Γ 0), .int (2 : Int32), .int a, .int b9, .int c9] M (fun v => some (.long v)) rM := by
  refine mkT hN.1 (own := RL) rfl (by decide) (Nat.le_of_ble_eq_true rfl) (fun X C E => ?_)
  change G Γ X M 0 0 [some (.ref (wad Γ 0)), some (.int (2 : Int32)), some (.int a), some (.int b9), some (.int c9)] [] 0
  unfold f_L_calls_2 at hf
  refine x_iload_n C rfl rfl (dkAt dk_L_calls 0 rfl) 1 rfl ?_
  refine x_tabIn C 138 (dkAt dk_L_calls 1 rfl) (n := 2) rfl (by decide) rfl (by decide) ?_
  refine x_aload_n C rfl rfl (dkAt dk_L_calls 15 rfl) 139 rfl ?_
  refine x_iload_n C rfl rfl (dkAt dk_L_calls 16 rfl) 140 rfl ?_
  refine x_iload_n C rfl rfl (dkAt dk_L_calls 17 rfl) 141 rfl ?_
  refine x_iload C rfl (dkAt dk_L_calls 18 rfl) 143 rfl ?_
  exact t_cVi C E hf (fun r hr => c_X11_percent hN hr) mw_X11_percent ln_RL_41 (mi_X11_percent) (hN.rc (ci := 11) sh0 rc11) (ro_of (by decide) (by decide) (by decide) (by decide)) rfl rfl (Nat.le_of_ble_eq_true rfl) (dkAt dk_L_calls 19 rfl) 146 rfl 5 30 rfl rfl (by decide) (by decide) (fun v M2 hf => nomatch hf)
def f_L_thrown_2 (Z : Nat) (M : Mem) (a b9 c9 : Int32) : Option (Int32 × Mem) := clT (f_L_calls_2 Z M a b9 c9) (fun _ _ => none) (fun e M3 => if e = 0 then some (1, M3) else if e = 1 then some (2, M3) else if e = 2 then some (3, M3) else none)
set_option maxRecDepth 100000 in
theorem c_L_thrown_2 {Γ : WC} (hN : HN Γ) (hC : NC Γ) {Z : Nat} {M : Mem} {a b9 c9 : Int32} {rM : Int32 × Mem} (hf : f_L_thrown_2 Z M a b9 c9 = some rM) : CtW Γ yL_thrown cL_thrown 6 (some .int) [(0, 21, 22, 124), (0, 21, 26, 126), (0, 21, 30, 128)] (rmL 11 5 30) [.ref (wad Γ 0), .int (2 : Int32), .int a, .int b9, .int c9] M (some (.int rM.1)) rM.2 := by
  refine mkW hN.1 (own := RL) rfl (by decide) (Nat.le_of_ble_eq_true rfl) (fun X C hT E => ?_)
  change G Γ X M 0 0 [some (.ref (wad Γ 0)), some (.int (2 : Int32)), some (.int a), some (.int b9), some (.int c9)] [] 0
  unfold f_L_thrown_2 at hf
  refine x_aload_n C rfl rfl (dkAt dk_L_thrown 0 rfl) 1 rfl ?_
  refine x_iload_n C rfl rfl (dkAt dk_L_thrown 1 rfl) 2 rfl ?_
  refine x_iload_n C rfl rfl (dkAt dk_L_thrown 2 rfl) 3 rfl ?_
  refine x_iload_n C rfl rfl (dkAt dk_L_thrown 3 rfl) 4 rfl ?_
  refine x_iload C rfl (dkAt dk_L_thrown 4 rfl) 6 rfl ?_
  refine h_cSl C hf (fun r hr => c_L_calls_2 hN hr) mw_L_calls ln_RL_118 ms_L_calls (ro_of (by decide) (by decide) (by decide) (by decide)) rfl rfl (Nat.le_of_ble_eq_true rfl) (dkAt dk_L_thrown 5 rfl) 9 rfl 5 30 rfl rfl (fun v M2 hf => nomatch hf) (fun e M3 hf => ?_)
  refine if_then hf (fun hE hf => ?_) (fun hE hf => ?_)
  · subst hE
    refine x_catch C hC hT [] ⟨0, 21, 22, 124⟩ [⟨0, 21, 26, 126⟩, ⟨0, 21, 30, 128⟩] rfl (fun _ h => nomatch h) (by decide) (by decide) (by decide) clk0 ckk0 (fun qa => ?_)
    refine x_astore C (L1 := [some (.ref (wad Γ 0)), some (.int (2 : Int32)), some (.int a), some (.int b9), some (.int c9), some (.ref qa)]) (dkAt dk_L_thrown 13 rfl) 24 rfl (by decide) rfl ?_
    refine x_iconst C (v := (1 : Int32)) (by decide) (dkAt dk_L_thrown 14 rfl) 25 rfl ?_
    exact x_iret C E hf (by decide) (by decide) (dkAt dk_L_thrown 15 rfl)
  · refine if_then hf (fun hE hf => ?_) (fun hE hf => ?_)
    · subst hE
      refine x_catch C hC hT [⟨0, 21, 22, 124⟩] ⟨0, 21, 26, 126⟩ [⟨0, 21, 30, 128⟩] rfl (List.forall_mem_cons.mpr ⟨⟨by decide, 0, by decide, by decide, clk0⟩, (fun _ h => nomatch h)⟩) (by decide) (by decide) (by decide) clk1 ckk1 (fun qa => ?_)
      refine x_astore C (L1 := [some (.ref (wad Γ 0)), some (.int (2 : Int32)), some (.int a), some (.int b9), some (.int c9), some (.ref qa)]) (dkAt dk_L_thrown 16 rfl) 28 rfl (by decide) rfl ?_
      refine x_iconst C (v := (2 : Int32)) (by decide) (dkAt dk_L_thrown 17 rfl) 29 rfl ?_
      exact x_iret C E hf (by decide) (by decide) (dkAt dk_L_thrown 18 rfl)
    · refine if_then hf (fun hE hf => ?_) (fun hE hf => ?_)
      · subst hE
        refine x_catch C hC hT [⟨0, 21, 22, 124⟩, ⟨0, 21, 26, 126⟩] ⟨0, 21, 30, 128⟩ [] rfl (List.forall_mem_cons.mpr ⟨⟨by decide, 0, by decide, by decide, clk0⟩, (List.forall_mem_cons.mpr ⟨⟨by decide, 1, by decide, by decide, clk1⟩, (fun _ h => nomatch h)⟩)⟩) (by decide) (by decide) (by decide) clk2 ckk2 (fun qa => ?_)
        refine x_astore C (L1 := [some (.ref (wad Γ 0)), some (.int (2 : Int32)), some (.int a), some (.int b9), some (.int c9), some (.ref qa)]) (dkAt dk_L_thrown 19 rfl) 32 rfl (by decide) rfl ?_
        refine x_iconst C (v := (3 : Int32)) (by decide) (dkAt dk_L_thrown 20 rfl) 33 rfl ?_
        exact x_iret C E hf (by decide) (by decide) (dkAt dk_L_thrown 21 rfl)
      · exact nomatch hf
def f_L_calls_21 (Z : Nat) (M : Mem) (a b9 c9 : Int32) : Option (Except Nat Int64 × Mem) := clT (f_X11_setHorizon Z M a) (fun _ _ => none) pr
set_option maxRecDepth 100000 in
theorem c_L_calls_21 {Γ : WC} (hN : HN Γ) {Z : Nat} {M : Mem} {a b9 c9 : Int32} {rM : Except Nat Int64 × Mem} (hf : f_L_calls_21 Z M a b9 c9 = some rM) : CtT Γ yL_calls cL_calls 5 (some .long) (rmL 8 2 12) [.ref (wad Γ 0), .int (21 : Int32), .int a, .int b9, .int c9] M (fun v => some (.long v)) rM := by
  refine mkT hN.1 (own := RL) rfl (by decide) (Nat.le_of_ble_eq_true rfl) (fun X C E => ?_)
  change G Γ X M 0 0 [some (.ref (wad Γ 0)), some (.int (21 : Int32)), some (.int a), some (.int b9), some (.int c9)] [] 0
  unfold f_L_calls_21 at hf
  refine x_iload_n C rfl rfl (dkAt dk_L_calls 0 rfl) 1 rfl ?_
  refine x_tabIn C 310 (dkAt dk_L_calls 1 rfl) (n := 21) rfl (by decide) rfl (by decide) ?_
  refine x_aload_n C rfl rfl (dkAt dk_L_calls 132 rfl) 311 rfl ?_
  refine x_iload_n C rfl rfl (dkAt dk_L_calls 133 rfl) 312 rfl ?_
  exact t_cVi C E hf (fun r hr => c_X11_setHorizon hN hr) mw_X11_setHorizon ln_RL_103 (mi_X11_setHorizon) (hN.rc (ci := 11) sh0 rc11) (ro_of (by decide) (by decide) (by decide) (by decide)) rfl rfl (Nat.le_of_ble_eq_true rfl) (dkAt dk_L_calls 134 rfl) 315 rfl 2 12 rfl rfl (by decide) (by decide) (fun v M2 hf => nomatch hf)
def f_L_thrown_21 (Z : Nat) (M : Mem) (a b9 c9 : Int32) : Option (Int32 × Mem) := clT (f_L_calls_21 Z M a b9 c9) (fun _ _ => none) (fun e M3 => if e = 0 then some (1, M3) else if e = 1 then some (2, M3) else if e = 2 then some (3, M3) else none)
set_option maxRecDepth 100000 in
theorem c_L_thrown_21 {Γ : WC} (hN : HN Γ) (hC : NC Γ) {Z : Nat} {M : Mem} {a b9 c9 : Int32} {rM : Int32 × Mem} (hf : f_L_thrown_21 Z M a b9 c9 = some rM) : CtW Γ yL_thrown cL_thrown 6 (some .int) [(0, 21, 22, 124), (0, 21, 26, 126), (0, 21, 30, 128)] (rmL 9 2 12) [.ref (wad Γ 0), .int (21 : Int32), .int a, .int b9, .int c9] M (some (.int rM.1)) rM.2 := by
  refine mkW hN.1 (own := RL) rfl (by decide) (Nat.le_of_ble_eq_true rfl) (fun X C hT E => ?_)
  change G Γ X M 0 0 [some (.ref (wad Γ 0)), some (.int (21 : Int32)), some (.int a), some (.int b9), some (.int c9)] [] 0
  unfold f_L_thrown_21 at hf
  refine x_aload_n C rfl rfl (dkAt dk_L_thrown 0 rfl) 1 rfl ?_
  refine x_iload_n C rfl rfl (dkAt dk_L_thrown 1 rfl) 2 rfl ?_
  refine x_iload_n C rfl rfl (dkAt dk_L_thrown 2 rfl) 3 rfl ?_
  refine x_iload_n C rfl rfl (dkAt dk_L_thrown 3 rfl) 4 rfl ?_
  refine x_iload C rfl (dkAt dk_L_thrown 4 rfl) 6 rfl ?_
  refine h_cSl C hf (fun r hr => c_L_calls_21 hN hr) mw_L_calls ln_RL_118 ms_L_calls (ro_of (by decide) (by decide) (by decide) (by decide)) rfl rfl (Nat.le_of_ble_eq_true rfl) (dkAt dk_L_thrown 5 rfl) 9 rfl 2 12 rfl rfl (fun v M2 hf => nomatch hf) (fun e M3 hf => ?_)
  refine if_then hf (fun hE hf => ?_) (fun hE hf => ?_)
  · subst hE
    refine x_catch C hC hT [] ⟨0, 21, 22, 124⟩ [⟨0, 21, 26, 126⟩, ⟨0, 21, 30, 128⟩] rfl (fun _ h => nomatch h) (by decide) (by decide) (by decide) clk0 ckk0 (fun qa => ?_)
    refine x_astore C (L1 := [some (.ref (wad Γ 0)), some (.int (21 : Int32)), some (.int a), some (.int b9), some (.int c9), some (.ref qa)]) (dkAt dk_L_thrown 13 rfl) 24 rfl (by decide) rfl ?_
    refine x_iconst C (v := (1 : Int32)) (by decide) (dkAt dk_L_thrown 14 rfl) 25 rfl ?_
    exact x_iret C E hf (by decide) (by decide) (dkAt dk_L_thrown 15 rfl)
  · refine if_then hf (fun hE hf => ?_) (fun hE hf => ?_)
    · subst hE
      refine x_catch C hC hT [⟨0, 21, 22, 124⟩] ⟨0, 21, 26, 126⟩ [⟨0, 21, 30, 128⟩] rfl (List.forall_mem_cons.mpr ⟨⟨by decide, 0, by decide, by decide, clk0⟩, (fun _ h => nomatch h)⟩) (by decide) (by decide) (by decide) clk1 ckk1 (fun qa => ?_)
      refine x_astore C (L1 := [some (.ref (wad Γ 0)), some (.int (21 : Int32)), some (.int a), some (.int b9), some (.int c9), some (.ref qa)]) (dkAt dk_L_thrown 16 rfl) 28 rfl (by decide) rfl ?_
      refine x_iconst C (v := (2 : Int32)) (by decide) (dkAt dk_L_thrown 17 rfl) 29 rfl ?_
      exact x_iret C E hf (by decide) (by decide) (dkAt dk_L_thrown 18 rfl)
    · refine if_then hf (fun hE hf => ?_) (fun hE hf => ?_)
      · subst hE
        refine x_catch C hC hT [⟨0, 21, 22, 124⟩, ⟨0, 21, 26, 126⟩] ⟨0, 21, 30, 128⟩ [] rfl (List.forall_mem_cons.mpr ⟨⟨by decide, 0, by decide, by decide, clk0⟩, (List.forall_mem_cons.mpr ⟨⟨by decide, 1, by decide, by decide, clk1⟩, (fun _ h => nomatch h)⟩)⟩) (by decide) (by decide) (by decide) clk2 ckk2 (fun qa => ?_)
        refine x_astore C (L1 := [some (.ref (wad Γ 0)), some (.int (21 : Int32)), some (.int a), some (.int b9), some (.int c9), some (.ref qa)]) (dkAt dk_L_thrown 19 rfl) 32 rfl (by decide) rfl ?_
        refine x_iconst C (v := (3 : Int32)) (by decide) (dkAt dk_L_thrown 20 rfl) 33 rfl ?_
        exact x_iret C E hf (by decide) (by decide) (dkAt dk_L_thrown 21 rfl)
      · exact nomatch hf
def f_L_calls_17 (Z : Nat) (M : Mem) (a b9 c9 : Int32) : Option (Except Nat Int64 × Mem) := clT (f_X11_setRule Z M a b9 c9 (0 : Int32)) (fun _ _ => none) pr
set_option maxRecDepth 100000 in
theorem c_L_calls_17 {Γ : WC} (hN : HN Γ) {Z : Nat} {M : Mem} {a b9 c9 : Int32} {rM : Except Nat Int64 × Mem} (hf : f_L_calls_17 Z M a b9 c9 = some rM) : CtT Γ yL_calls cL_calls 5 (some .long) (rmL 9 6 36) [.ref (wad Γ 0), .int (17 : Int32), .int a, .int b9, .int c9] M (fun v => some (.long v)) rM := by
  refine mkT hN.1 (own := RL) rfl (by decide) (Nat.le_of_ble_eq_true rfl) (fun X C E => ?_)
  change G Γ X M 0 0 [some (.ref (wad Γ 0)), some (.int (17 : Int32)), some (.int a), some (.int b9), some (.int c9)] [] 0
  unfold f_L_calls_17 at hf
  refine x_iload_n C rfl rfl (dkAt dk_L_calls 0 rfl) 1 rfl ?_
  refine x_tabIn C 259 (dkAt dk_L_calls 1 rfl) (n := 17) rfl (by decide) rfl (by decide) ?_
  refine x_aload_n C rfl rfl (dkAt dk_L_calls 99 rfl) 260 rfl ?_
  refine x_iload_n C rfl rfl (dkAt dk_L_calls 100 rfl) 261 rfl ?_
  refine x_iload_n C rfl rfl (dkAt dk_L_calls 101 rfl) 262 rfl ?_
  refine x_iload C rfl (dkAt dk_L_calls 102 rfl) 264 rfl ?_
  refine x_iconst C (v := (0 : Int32)) (by decide) (dkAt dk_L_calls 103 rfl) 265 rfl ?_
  exact t_cVi C E hf (fun r hr => c_X11_setRule hN hr) mw_X11_setRule ln_RL_89 (mi_X11_setRule) (hN.rc (ci := 11) sh0 rc11) (ro_of (by decide) (by decide) (by decide) (by decide)) rfl rfl (Nat.le_of_ble_eq_true rfl) (dkAt dk_L_calls 104 rfl) 268 rfl 6 36 rfl rfl (by decide) (by decide) (fun v M2 hf => nomatch hf)
def f_L_thrown_17 (Z : Nat) (M : Mem) (a b9 c9 : Int32) : Option (Int32 × Mem) := clT (f_L_calls_17 Z M a b9 c9) (fun _ _ => none) (fun e M3 => if e = 0 then some (1, M3) else if e = 1 then some (2, M3) else if e = 2 then some (3, M3) else none)
set_option maxRecDepth 100000 in
theorem c_L_thrown_17 {Γ : WC} (hN : HN Γ) (hC : NC Γ) {Z : Nat} {M : Mem} {a b9 c9 : Int32} {rM : Int32 × Mem} (hf : f_L_thrown_17 Z M a b9 c9 = some rM) : CtW Γ yL_thrown cL_thrown 6 (some .int) [(0, 21, 22, 124), (0, 21, 26, 126), (0, 21, 30, 128)] (rmL 10 6 36) [.ref (wad Γ 0), .int (17 : Int32), .int a, .int b9, .int c9] M (some (.int rM.1)) rM.2 := by
  refine mkW hN.1 (own := RL) rfl (by decide) (Nat.le_of_ble_eq_true rfl) (fun X C hT E => ?_)
  change G Γ X M 0 0 [some (.ref (wad Γ 0)), some (.int (17 : Int32)), some (.int a), some (.int b9), some (.int c9)] [] 0
  unfold f_L_thrown_17 at hf
  refine x_aload_n C rfl rfl (dkAt dk_L_thrown 0 rfl) 1 rfl ?_
  refine x_iload_n C rfl rfl (dkAt dk_L_thrown 1 rfl) 2 rfl ?_
  refine x_iload_n C rfl rfl (dkAt dk_L_thrown 2 rfl) 3 rfl ?_
  refine x_iload_n C rfl rfl (dkAt dk_L_thrown 3 rfl) 4 rfl ?_
  refine x_iload C rfl (dkAt dk_L_thrown 4 rfl) 6 rfl ?_
  refine h_cSl C hf (fun r hr => c_L_calls_17 hN hr) mw_L_calls ln_RL_118 ms_L_calls (ro_of (by decide) (by decide) (by decide) (by decide)) rfl rfl (Nat.le_of_ble_eq_true rfl) (dkAt dk_L_thrown 5 rfl) 9 rfl 6 36 rfl rfl (fun v M2 hf => nomatch hf) (fun e M3 hf => ?_)
  refine if_then hf (fun hE hf => ?_) (fun hE hf => ?_)
  · subst hE
    refine x_catch C hC hT [] ⟨0, 21, 22, 124⟩ [⟨0, 21, 26, 126⟩, ⟨0, 21, 30, 128⟩] rfl (fun _ h => nomatch h) (by decide) (by decide) (by decide) clk0 ckk0 (fun qa => ?_)
    refine x_astore C (L1 := [some (.ref (wad Γ 0)), some (.int (17 : Int32)), some (.int a), some (.int b9), some (.int c9), some (.ref qa)]) (dkAt dk_L_thrown 13 rfl) 24 rfl (by decide) rfl ?_
    refine x_iconst C (v := (1 : Int32)) (by decide) (dkAt dk_L_thrown 14 rfl) 25 rfl ?_
    exact x_iret C E hf (by decide) (by decide) (dkAt dk_L_thrown 15 rfl)
  · refine if_then hf (fun hE hf => ?_) (fun hE hf => ?_)
    · subst hE
      refine x_catch C hC hT [⟨0, 21, 22, 124⟩] ⟨0, 21, 26, 126⟩ [⟨0, 21, 30, 128⟩] rfl (List.forall_mem_cons.mpr ⟨⟨by decide, 0, by decide, by decide, clk0⟩, (fun _ h => nomatch h)⟩) (by decide) (by decide) (by decide) clk1 ckk1 (fun qa => ?_)
      refine x_astore C (L1 := [some (.ref (wad Γ 0)), some (.int (17 : Int32)), some (.int a), some (.int b9), some (.int c9), some (.ref qa)]) (dkAt dk_L_thrown 16 rfl) 28 rfl (by decide) rfl ?_
      refine x_iconst C (v := (2 : Int32)) (by decide) (dkAt dk_L_thrown 17 rfl) 29 rfl ?_
      exact x_iret C E hf (by decide) (by decide) (dkAt dk_L_thrown 18 rfl)
    · refine if_then hf (fun hE hf => ?_) (fun hE hf => ?_)
      · subst hE
        refine x_catch C hC hT [⟨0, 21, 22, 124⟩, ⟨0, 21, 26, 126⟩] ⟨0, 21, 30, 128⟩ [] rfl (List.forall_mem_cons.mpr ⟨⟨by decide, 0, by decide, by decide, clk0⟩, (List.forall_mem_cons.mpr ⟨⟨by decide, 1, by decide, by decide, clk1⟩, (fun _ h => nomatch h)⟩)⟩) (by decide) (by decide) (by decide) clk2 ckk2 (fun qa => ?_)
        refine x_astore C (L1 := [some (.ref (wad Γ 0)), some (.int (17 : Int32)), some (.int a), some (.int b9), some (.int c9), some (.ref qa)]) (dkAt dk_L_thrown 19 rfl) 32 rfl (by decide) rfl ?_
        refine x_iconst C (v := (3 : Int32)) (by decide) (dkAt dk_L_thrown 20 rfl) 33 rfl ?_
        exact x_iret C E hf (by decide) (by decide) (dkAt dk_L_thrown 21 rfl)
      · exact nomatch hf
def f_L_calls_20 (Z : Nat) (M : Mem) (a b9 c9 : Int32) : Option (Except Nat Int64 × Mem) := clT (f_X11_setLimit Z M a b9) (fun _ _ => none) pr
set_option maxRecDepth 100000 in
theorem c_L_calls_20 {Γ : WC} (hN : HN Γ) {Z : Nat} {M : Mem} {a b9 c9 : Int32} {rM : Except Nat Int64 × Mem} (hf : f_L_calls_20 Z M a b9 c9 = some rM) : CtT Γ yL_calls cL_calls 5 (some .long) (rmL 9 3 18) [.ref (wad Γ 0), .int (20 : Int32), .int a, .int b9, .int c9] M (fun v => some (.long v)) rM := by
  refine mkT hN.1 (own := RL) rfl (by decide) (Nat.le_of_ble_eq_true rfl) (fun X C E => ?_)
  change G Γ X M 0 0 [some (.ref (wad Γ 0)), some (.int (20 : Int32)), some (.int a), some (.int b9), some (.int c9)] [] 0
  unfold f_L_calls_20 at hf
  refine x_iload_n C rfl rfl (dkAt dk_L_calls 0 rfl) 1 rfl ?_
  refine x_tabIn C 302 (dkAt dk_L_calls 1 rfl) (n := 20) rfl (by decide) rfl (by decide) ?_
  refine x_aload_n C rfl rfl (dkAt dk_L_calls 126 rfl) 303 rfl ?_
  refine x_iload_n C rfl rfl (dkAt dk_L_calls 127 rfl) 304 rfl ?_
  refine x_iload_n C rfl rfl (dkAt dk_L_calls 128 rfl) 305 rfl ?_
  exact t_cVi C E hf (fun r hr => c_X11_setLimit hN hr) mw_X11_setLimit ln_RL_100 (mi_X11_setLimit) (hN.rc (ci := 11) sh0 rc11) (ro_of (by decide) (by decide) (by decide) (by decide)) rfl rfl (Nat.le_of_ble_eq_true rfl) (dkAt dk_L_calls 129 rfl) 308 rfl 3 18 rfl rfl (by decide) (by decide) (fun v M2 hf => nomatch hf)
def f_L_thrown_20 (Z : Nat) (M : Mem) (a b9 c9 : Int32) : Option (Int32 × Mem) := clT (f_L_calls_20 Z M a b9 c9) (fun _ _ => none) (fun e M3 => if e = 0 then some (1, M3) else if e = 1 then some (2, M3) else if e = 2 then some (3, M3) else none)
set_option maxRecDepth 100000 in
theorem c_L_thrown_20 {Γ : WC} (hN : HN Γ) (hC : NC Γ) {Z : Nat} {M : Mem} {a b9 c9 : Int32} {rM : Int32 × Mem} (hf : f_L_thrown_20 Z M a b9 c9 = some rM) : CtW Γ yL_thrown cL_thrown 6 (some .int) [(0, 21, 22, 124), (0, 21, 26, 126), (0, 21, 30, 128)] (rmL 10 3 18) [.ref (wad Γ 0), .int (20 : Int32), .int a, .int b9, .int c9] M (some (.int rM.1)) rM.2 := by
  refine mkW hN.1 (own := RL) rfl (by decide) (Nat.le_of_ble_eq_true rfl) (fun X C hT E => ?_)
  change G Γ X M 0 0 [some (.ref (wad Γ 0)), some (.int (20 : Int32)), some (.int a), some (.int b9), some (.int c9)] [] 0
  unfold f_L_thrown_20 at hf
  refine x_aload_n C rfl rfl (dkAt dk_L_thrown 0 rfl) 1 rfl ?_
  refine x_iload_n C rfl rfl (dkAt dk_L_thrown 1 rfl) 2 rfl ?_
  refine x_iload_n C rfl rfl (dkAt dk_L_thrown 2 rfl) 3 rfl ?_
  refine x_iload_n C rfl rfl (dkAt dk_L_thrown 3 rfl) 4 rfl ?_
  refine x_iload C rfl (dkAt dk_L_thrown 4 rfl) 6 rfl ?_
  refine h_cSl C hf (fun r hr => c_L_calls_20 hN hr) mw_L_calls ln_RL_118 ms_L_calls (ro_of (by decide) (by decide) (by decide) (by decide)) rfl rfl (Nat.le_of_ble_eq_true rfl) (dkAt dk_L_thrown 5 rfl) 9 rfl 3 18 rfl rfl (fun v M2 hf => nomatch hf) (fun e M3 hf => ?_)
  refine if_then hf (fun hE hf => ?_) (fun hE hf => ?_)
  · subst hE
    refine x_catch C hC hT [] ⟨0, 21, 22, 124⟩ [⟨0, 21, 26, 126⟩, ⟨0, 21, 30, 128⟩] rfl (fun _ h => nomatch h) (by decide) (by decide) (by decide) clk0 ckk0 (fun qa => ?_)
    refine x_astore C (L1 := [some (.ref (wad Γ 0)), some (.int (20 : Int32)), some (.int a), some (.int b9), some (.int c9), some (.ref qa)]) (dkAt dk_L_thrown 13 rfl) 24 rfl (by decide) rfl ?_
    refine x_iconst C (v := (1 : Int32)) (by decide) (dkAt dk_L_thrown 14 rfl) 25 rfl ?_
    exact x_iret C E hf (by decide) (by decide) (dkAt dk_L_thrown 15 rfl)
  · refine if_then hf (fun hE hf => ?_) (fun hE hf => ?_)
    · subst hE
      refine x_catch C hC hT [⟨0, 21, 22, 124⟩] ⟨0, 21, 26, 126⟩ [⟨0, 21, 30, 128⟩] rfl (List.forall_mem_cons.mpr ⟨⟨by decide, 0, by decide, by decide, clk0⟩, (fun _ h => nomatch h)⟩) (by decide) (by decide) (by decide) clk1 ckk1 (fun qa => ?_)
      refine x_astore C (L1 := [some (.ref (wad Γ 0)), some (.int (20 : Int32)), some (.int a), some (.int b9), some (.int c9), some (.ref qa)]) (dkAt dk_L_thrown 16 rfl) 28 rfl (by decide) rfl ?_
      refine x_iconst C (v := (2 : Int32)) (by decide) (dkAt dk_L_thrown 17 rfl) 29 rfl ?_
      exact x_iret C E hf (by decide) (by decide) (dkAt dk_L_thrown 18 rfl)
    · refine if_then hf (fun hE hf => ?_) (fun hE hf => ?_)
      · subst hE
        refine x_catch C hC hT [⟨0, 21, 22, 124⟩, ⟨0, 21, 26, 126⟩] ⟨0, 21, 30, 128⟩ [] rfl (List.forall_mem_cons.mpr ⟨⟨by decide, 0, by decide, by decide, clk0⟩, (List.forall_mem_cons.mpr ⟨⟨by decide, 1, by decide, by decide, clk1⟩, (fun _ h => nomatch h)⟩)⟩) (by decide) (by decide) (by decide) clk2 ckk2 (fun qa => ?_)
        refine x_astore C (L1 := [some (.ref (wad Γ 0)), some (.int (20 : Int32)), some (.int a), some (.int b9), some (.int c9), some (.ref qa)]) (dkAt dk_L_thrown 19 rfl) 32 rfl (by decide) rfl ?_
        refine x_iconst C (v := (3 : Int32)) (by decide) (dkAt dk_L_thrown 20 rfl) 33 rfl ?_
        exact x_iret C E hf (by decide) (by decide) (dkAt dk_L_thrown 21 rfl)
      · exact nomatch hf
def f_L_calls_15 (Z : Nat) (M : Mem) (a b9 c9 : Int32) : Option (Except Nat Int64 × Mem) := clT (f_X11_gainOfWalks Z M a) (fun _ _ => none) pr
set_option maxRecDepth 100000 in
theorem c_L_calls_15 {Γ : WC} (hN : HN Γ) {Z : Nat} {M : Mem} {a b9 c9 : Int32} {rM : Except Nat Int64 × Mem} (hf : f_L_calls_15 Z M a b9 c9 = some rM) : CtT Γ yL_calls cL_calls 5 (some .long) (rmL 8 2 12) [.ref (wad Γ 0), .int (15 : Int32), .int a, .int b9, .int c9] M (fun v => some (.long v)) rM := by
  refine mkT hN.1 (own := RL) rfl (by decide) (Nat.le_of_ble_eq_true rfl) (fun X C E => ?_)
  change G Γ X M 0 0 [some (.ref (wad Γ 0)), some (.int (15 : Int32)), some (.int a), some (.int b9), some (.int c9)] [] 0
  unfold f_L_calls_15 at hf
  refine x_iload_n C rfl rfl (dkAt dk_L_calls 0 rfl) 1 rfl ?_
  refine x_tabIn C 245 (dkAt dk_L_calls 1 rfl) (n := 15) rfl (by decide) rfl (by decide) ?_
  refine x_aload_n C rfl rfl (dkAt dk_L_calls 89 rfl) 246 rfl ?_
  refine x_iload_n C rfl rfl (dkAt dk_L_calls 90 rfl) 247 rfl ?_
  exact t_cVi C E hf (fun r hr => c_X11_gainOfWalks hN hr) mw_X11_gainOfWalks ln_RL_83 (mi_X11_gainOfWalks) (hN.rc (ci := 11) sh0 rc11) (ro_of (by decide) (by decide) (by decide) (by decide)) rfl rfl (Nat.le_of_ble_eq_true rfl) (dkAt dk_L_calls 91 rfl) 250 rfl 2 12 rfl rfl (by decide) (by decide) (fun v M2 hf => nomatch hf)
def f_L_thrown_15 (Z : Nat) (M : Mem) (a b9 c9 : Int32) : Option (Int32 × Mem) := clT (f_L_calls_15 Z M a b9 c9) (fun _ _ => none) (fun e M3 => if e = 0 then some (1, M3) else if e = 1 then some (2, M3) else if e = 2 then some (3, M3) else none)
set_option maxRecDepth 100000 in
theorem c_L_thrown_15 {Γ : WC} (hN : HN Γ) (hC : NC Γ) {Z : Nat} {M : Mem} {a b9 c9 : Int32} {rM : Int32 × Mem} (hf : f_L_thrown_15 Z M a b9 c9 = some rM) : CtW Γ yL_thrown cL_thrown 6 (some .int) [(0, 21, 22, 124), (0, 21, 26, 126), (0, 21, 30, 128)] (rmL 9 2 12) [.ref (wad Γ 0), .int (15 : Int32), .int a, .int b9, .int c9] M (some (.int rM.1)) rM.2 := by
  refine mkW hN.1 (own := RL) rfl (by decide) (Nat.le_of_ble_eq_true rfl) (fun X C hT E => ?_)
  change G Γ X M 0 0 [some (.ref (wad Γ 0)), some (.int (15 : Int32)), some (.int a), some (.int b9), some (.int c9)] [] 0
  unfold f_L_thrown_15 at hf
  refine x_aload_n C rfl rfl (dkAt dk_L_thrown 0 rfl) 1 rfl ?_
  refine x_iload_n C rfl rfl (dkAt dk_L_thrown 1 rfl) 2 rfl ?_
  refine x_iload_n C rfl rfl (dkAt dk_L_thrown 2 rfl) 3 rfl ?_
  refine x_iload_n C rfl rfl (dkAt dk_L_thrown 3 rfl) 4 rfl ?_
  refine x_iload C rfl (dkAt dk_L_thrown 4 rfl) 6 rfl ?_
  refine h_cSl C hf (fun r hr => c_L_calls_15 hN hr) mw_L_calls ln_RL_118 ms_L_calls (ro_of (by decide) (by decide) (by decide) (by decide)) rfl rfl (Nat.le_of_ble_eq_true rfl) (dkAt dk_L_thrown 5 rfl) 9 rfl 2 12 rfl rfl (fun v M2 hf => nomatch hf) (fun e M3 hf => ?_)
  refine if_then hf (fun hE hf => ?_) (fun hE hf => ?_)
  · subst hE
    refine x_catch C hC hT [] ⟨0, 21, 22, 124⟩ [⟨0, 21, 26, 126⟩, ⟨0, 21, 30, 128⟩] rfl (fun _ h => nomatch h) (by decide) (by decide) (by decide) clk0 ckk0 (fun qa => ?_)
    refine x_astore C (L1 := [some (.ref (wad Γ 0)), some (.int (15 : Int32)), some (.int a), some (.int b9), some (.int c9), some (.ref qa)]) (dkAt dk_L_thrown 13 rfl) 24 rfl (by decide) rfl ?_
    refine x_iconst C (v := (1 : Int32)) (by decide) (dkAt dk_L_thrown 14 rfl) 25 rfl ?_
    exact x_iret C E hf (by decide) (by decide) (dkAt dk_L_thrown 15 rfl)
  · refine if_then hf (fun hE hf => ?_) (fun hE hf => ?_)
    · subst hE
      refine x_catch C hC hT [⟨0, 21, 22, 124⟩] ⟨0, 21, 26, 126⟩ [⟨0, 21, 30, 128⟩] rfl (List.forall_mem_cons.mpr ⟨⟨by decide, 0, by decide, by decide, clk0⟩, (fun _ h => nomatch h)⟩) (by decide) (by decide) (by decide) clk1 ckk1 (fun qa => ?_)
      refine x_astore C (L1 := [some (.ref (wad Γ 0)), some (.int (15 : Int32)), some (.int a), some (.int b9), some (.int c9), some (.ref qa)]) (dkAt dk_L_thrown 16 rfl) 28 rfl (by decide) rfl ?_
      refine x_iconst C (v := (2 : Int32)) (by decide) (dkAt dk_L_thrown 17 rfl) 29 rfl ?_
      exact x_iret C E hf (by decide) (by decide) (dkAt dk_L_thrown 18 rfl)
    · refine if_then hf (fun hE hf => ?_) (fun hE hf => ?_)
      · subst hE
        refine x_catch C hC hT [⟨0, 21, 22, 124⟩, ⟨0, 21, 26, 126⟩] ⟨0, 21, 30, 128⟩ [] rfl (List.forall_mem_cons.mpr ⟨⟨by decide, 0, by decide, by decide, clk0⟩, (List.forall_mem_cons.mpr ⟨⟨by decide, 1, by decide, by decide, clk1⟩, (fun _ h => nomatch h)⟩)⟩) (by decide) (by decide) (by decide) clk2 ckk2 (fun qa => ?_)
        refine x_astore C (L1 := [some (.ref (wad Γ 0)), some (.int (15 : Int32)), some (.int a), some (.int b9), some (.int c9), some (.ref qa)]) (dkAt dk_L_thrown 19 rfl) 32 rfl (by decide) rfl ?_
        refine x_iconst C (v := (3 : Int32)) (by decide) (dkAt dk_L_thrown 20 rfl) 33 rfl ?_
        exact x_iret C E hf (by decide) (by decide) (dkAt dk_L_thrown 21 rfl)
      · exact nomatch hf
