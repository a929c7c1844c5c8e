/-! the law's own methods with handlers -/
def okD {β : Type} (r : UInt64) (k : Option β) : Option β := if r &&& 0x7fffffffffffffff ≤ 0x7ff0000000000000 then k else none
def NC (Γ : WC) : Prop := ∀ a b, a < 3 → b < 3 → a ≠ b → va_Nc (xN a) (xN b) (wU Γ)
def XT (X : MX) (hh : List (Nat × Nat × Nat × Nat)) : Prop := match X with
  | (_, _, _, _, _, _, _, _, c, _) => c.exceptionTable.toList = tableOf hh
def CtW (Γ : WC) (y : MethodName) (cc : ByteArray) (nL : Nat) (ret : Option FieldType) (hh : List (Nat × Nat × Nat × Nat)) (rm : Room) (As : List Value) (M : Mem) (v : Option Value) (M' : Mem) : Prop :=
  Met (wl Γ) y [Cond.codeWith y cc nL ret hh] rm (va_Pc As (WP Γ M)) (fun _ _ o t => o = .returned v ∧ WP Γ M' t) rm.cells rm.slots (fAg Γ)
theorem mkW {Γ : WC} {y : MethodName} {own : String} {cc : ByteArray} {nL : Nat} {ret : Option FieldType} {hh : List (Nat × Nat × Nat × Nat)} {rm : Room} {As : List Value} {M : Mem} {v : Option Value} {M' : Mem} (hG : HG Γ) (ho : y.cls = own) (hn : plainName y.cls = true) (hl : (lg_sl As).length ≤ nL)
    (body : ∀ X, CX Γ X cc nL own ret rm → XT X hh → EndN Γ X v M' rm.cells rm.slots → G Γ X M 0 0 (lE As) [] 0) : CtW Γ y cc nL ret hh rm As M v M' := by
  refine va_MetW (cc := cc) (maxL := nL) (ret := ret) (hh := hh) hn rfl ?_
  intro p e s m args below meth c s₁ B hml hv
  obtain ⟨rfl, hK, hW, hS, hP, hD⟩ := hv
  subst ho
  have hown : s.vm.findClass y.cls = some m.cls := findClass_of_methodNamed B.named
  have hts := atoms_spec (ws := [Cond.codeWith y cc nL ret hh]) B.pre
  have hb := body (p, e, rm, s, m, As.toArray, below, meth, c, MQ below (fun _ _ o t => o = .returned v ∧ WP Γ M' t) As.toArray s rm.cells rm.slots (fAg Γ))
    ⟨B.exec, B.bytes, hml, hown, fun w hw => hG.1 w hw _ _ hW, hW, B.notSynchronized, B.returns, rfl, mkCX hG hW, hS, hG⟩ (vx_table (x := y) B (hts _ List.mem_cons_self)) rfl
  have hle := lv_entry As hl
  rw [lg_entry_eq]
  have h2 := hb s.heap [] _ hK hP hD hS (by rw [hml, lE_args]; exact hle)
  exact h2
section Wr
variable {Γ : WC} {X : MX} {M M1 : Mem} {cs sl : Nat} {L : List (Option Value)} {st stk As : List Value} {pc idx n maxL : Nat} {cc bytes : ByteArray} {nL : Nat} {own : String} {ret rt : Option FieldType} {R0 rm : Room} {y : MethodName} {hh : List (Nat × Nat × Nat × Nat)}
theorem x_catch {n9 : Nat} (C : CX Γ X cc nL own ret R0) (hC : NC Γ) (hT : XT X hh) (pre : List ExceptionTableEntry) (x : ExceptionTableEntry) (suf : List ExceptionTableEntry) (hs : tableOf hh = pre ++ x :: suf) (hp : ∀ z ∈ pre, z.catchType ≠ 0 ∧ ∃ k, k < 3 ∧ k ≠ n9 ∧ Gd (.classLink own z.catchType (xN k))) (hn : n9 < 3) (hcov : covers x pc = true) (h0 : x.catchType ≠ 0) (lk : Gd (.classLink own x.catchType (xN n9))) (ck : Gd (.castable (xN n9) (xN n9))) (K : ∀ qa, G Γ X M cs sl L [.ref qa] x.handlerPc) : GX Γ X M cs sl L st pc n9 := by
  obtain ⟨p, e, R, s, m, args, below, meth, c, Q⟩ := X
  obtain ⟨hx, hb, hml, hown, hts, hW, hlk, hret, rfl, hK, hSs, hG⟩ := C
  intro H locs ls q ce a1 a2 a3 a4 a5 b1 b2 b3
  refine vx_catch hown pre x suf (hs ▸ hT) (fun z hz => ?_) hcov h0 (hts _ lk) (hts _ ck) b1 b2 b3 (K q H locs ls a1 a2 a3 a4 a5)
  obtain ⟨z1, k, k1, k2, k3⟩ := hp z hz
  exact Or.inr ⟨z1, _, hts _ k3, va_Nc.moved hW.alike (hC _ _ hn k1 (Ne.symm k2))⟩
def MWW (y : MethodName) (bytes : ByteArray) (maxL : Nat) (rt : Option FieldType) (hh : List (Nat × Nat × Nat × Nat)) (n : Nat) : Prop := Gd (.initialized y.cls) ∧ Gd (.codeWith y bytes maxL rt hh) ∧ (y.cls ≠ "java/lang/invoke/MethodHandle" ∧ y.cls ≠ "java/lang/invoke/VarHandle") ∧ (parseMethodDescriptor y.desc).map (fun d => d.parameters.length) = some n ∧ Gd (.static y)
theorem x_cW {x : Int32} (C : CX Γ X cc nL own ret R0) (hM : CtW Γ y bytes maxL rt hh rm As M (some (.int x)) M1) (mw : MWW y bytes maxL rt hh n) (ln : Gd (.methodLink own idx y)) (hr : RO rm R0 maxL cs sl) (hn : As.length = n) (hst : stk = As.reverse ++ st) (hw : (st.map fun v => v.category).sum ≤ 8) (d : decode cc pc = .ok (.invokestatic idx, 3)) (q : Nat) (hq : pc + 3 = q) (cs1 sl1 : Nat) (ec : cs + rm.cells = cs1) (es : sl + rm.slots = sl1) (K : G Γ X M1 cs1 sl1 L (.int x :: st) q) : G Γ X M cs sl L stk pc := by
  obtain ⟨p, e, R, s, m, args, below, meth, c, Q⟩ := X
  obtain ⟨hx, hb, hml, hown, hts, hW, hlk, hret, rfl, hK, hSs, hG⟩ := C
  subst hst; subst hml; subst hq; subst ec; subst es
  intro H locs ls a1 a2 a3 a4 a5
  have hcw : vx_CSW R s args own idx y bytes maxL rt hh [Cond.codeWith y bytes maxL rt hh] rm rm.cells rm.slots n := ⟨⟨rfl, rfl, hr.1, hr.2.1, fun w hw a U hU => by
    rw [List.mem_singleton.mp hw]
    exact hG.1 _ mw.2.1 _ _ (State.WarmedH.trans hW hU), List.mem_singleton.mpr rfl⟩, hts _ mw.2.1, hts _ mw.1, mw.2.2.1, fun sig h => by
    have h2 := mw.2.2.2.1
    rw [h] at h2
    exact (Option.some.inj h2).symm, hts _ ln, hts _ mw.2.2.2.2⟩
  exact callN (vx_runSW (Ts := []) (own := own) ⟨hx, hb, rfl, hown, fun _ h => nomatch h⟩ hM hcw ⟨WP.blind, fun U hU hU2 => ⟨rfl, a1, State.WarmedH.trans hW hU2, by rw [hU]; exact S_nil a4, by rw [hU]; exact a2, a3⟩⟩ rfl hn a5.1 rfl (lv_room hw) d ⟨hr.2.2.1, hr.2.2.2⟩) a4 (fun H1 locs1 b1 b2 b3 b4 => K H1 locs1 ls b1 b2 b3 b4 a5)
theorem x_f2dK {β : Type} {rM : β} (C : CX Γ X cc nL own ret R0) {x : UInt32} {a : Option β} (d : decode cc pc = .ok (.f2d, 1)) (q : Nat) (hq : pc + 1 = q) (hf : okD (FP.f2d x) a = some rM) (K : a = some rM → G Γ X M cs sl L (.double (FP.f2d x) :: st) q) : G Γ X M cs sl L (.float x :: st) pc := by
  obtain ⟨h1, h2⟩ := if_some hf
  exact x_f2d C h1 d q hq (K h2)
end Wr
theorem ln_RL_7 : Gd (.methodLink RL 7 yX11_load) := gd 587 (by decide +kernel) rfl
theorem ln_RL_17 : Gd (.methodLink RL 17 yX11_start) := gd 889 (by decide +kernel) rfl
theorem ln_RL_23 : Gd (.methodLink RL 23 yX11_actions) := gd 916 (by decide +kernel) rfl
theorem ln_RL_26 : Gd (.methodLink RL 26 yX11_gain) := gd 928 (by decide +kernel) rfl
theorem ln_RL_30 : Gd (.methodLink RL 30 yX11_uses) := gd 940 (by decide +kernel) rfl
theorem ln_RL_34 : Gd (.methodLink RL 34 yX11_percent) := gd 953 (by decide +kernel) rfl
theorem ln_RL_37 : Gd (.methodLink RL 37 yX11_weight) := gd 961 (by decide +kernel) rfl
theorem ln_RL_40 : Gd (.methodLink RL 40 yX11_isPermitted) := gd 968 (by decide +kernel) rfl
theorem ln_RL_44 : Gd (.methodLink RL 44 yX11_limit) := gd 979 (by decide +kernel) rfl
theorem ln_RL_47 : Gd (.methodLink RL 47 yX11_reach) := gd 986 (by decide +kernel) rfl
theorem ln_RL_50 : Gd (.methodLink RL 50 yX11_isClosed) := gd 1034 (by decide +kernel) rfl
theorem ln_RL_54 : Gd (.methodLink RL 54 yX11_flow) := gd 1045 (by decide +kernel) rfl
theorem ln_RL_58 : Gd (.methodLink RL 58 yX11_use) := gd 1052 (by decide +kernel) rfl
theorem ln_RL_62 : Gd (.methodLink RL 62 yX11_visits) := gd 1059 (by decide +kernel) rfl
theorem ln_RL_66 : Gd (.methodLink RL 66 yX11_hit) := gd 1076 (by decide +kernel) rfl
theorem ln_RL_69 : Gd (.methodLink RL 69 yX11_unit) := gd 1087 (by decide +kernel) rfl
theorem ln_RL_73 : Gd (.methodLink RL 73 yX11_gainOfRun) := gd 1099 (by decide +kernel) rfl
theorem ln_RL_76 : Gd (.methodLink RL 76 yX11_usedOfRun) := gd 1110 (by decide +kernel) rfl
theorem ln_RL_79 : Gd (.methodLink RL 79 yX11_left) := gd 1122 (by decide +kernel) rfl
theorem ln_RL_82 : Gd (.methodLink RL 82 yX11_broken) := gd 1129 (by decide +kernel) rfl
theorem ln_RL_85 : Gd (.methodLink RL 85 yX11_within) := gd 1140 (by decide +kernel) rfl
theorem ln_RL_88 : Gd (.methodLink RL 88 yX11_mostUsed) := gd 1164 (by decide +kernel) rfl
theorem ln_RL_91 : Gd (.methodLink RL 91 yX11_firstTime) := gd 1183 (by decide +kernel) rfl
theorem ln_RL_94 : Gd (.methodLink RL 94 yX11_busiest) := gd 1190 (by decide +kernel) rfl
theorem ln_RL_97 : Gd (.methodLink RL 97 yX11_meanGain) := gd 1202 (by decide +kernel) rfl
theorem ln_RL_101 : Gd (.methodLink RL 101 yX11_likeliest) := gd 1209 (by decide +kernel) rfl
theorem ln_RL_104 : Gd (.methodLink RL 104 yX11_likeliestAt) := gd 1231 (by decide +kernel) rfl
theorem ln_RL_107 : Gd (.methodLink RL 107 yX11_value) := gd 1246 (by decide +kernel) rfl
theorem ln_RL_110 : Gd (.methodLink RL 110 yX11_valueAction) := gd 1277 (by decide +kernel) rfl
theorem ln_RL_113 : Gd (.methodLink RL 113 yX11_bestGain) := gd 1285 (by decide +kernel) rfl
theorem ln_RL_116 : Gd (.methodLink RL 116 yX11_bestAction) := gd 1330 (by decide +kernel) rfl
theorem ln_RL_119 : Gd (.methodLink RL 119 yX11_pureSets) := gd 1338 (by decide +kernel) rfl
theorem ln_RL_122 : Gd (.methodLink RL 122 yX11_worth) := gd 1349 (by decide +kernel) rfl
theorem ln_RL_125 : Gd (.methodLink RL 125 yX11_leastLimit) := gd 1356 (by decide +kernel) rfl
theorem ln_RL_128 : Gd (.methodLink RL 128 yX11_bestWeight) := gd 1372 (by decide +kernel) rfl
theorem ln_RL_131 : Gd (.methodLink RL 131 yX11_seed) := gd 1382 (by decide +kernel) rfl
theorem ln_RL_134 : Gd (.methodLink RL 134 yX11_walked) := gd 1389 (by decide +kernel) rfl
theorem ln_RL_137 : Gd (.methodLink RL 137 yX11_walkedBy) := gd 1401 (by decide +kernel) rfl
theorem ln_RL_140 : Gd (.methodLink RL 140 yX11_walkGain) := gd 1408 (by decide +kernel) rfl
theorem ln_RL_143 : Gd (.methodLink RL 143 yX11_walkUsed) := gd 1420 (by decide +kernel) rfl
theorem ln_RL_146 : Gd (.methodLink RL 146 yX11_gainOfWalks) := gd 1427 (by decide +kernel) rfl
theorem ln_RL_149 : Gd (.methodLink RL 149 yX11_report) := gd 1456 (by decide +kernel) rfl
theorem ln_RL_152 : Gd (.methodLink RL 152 yX11_reportByte) := gd 1476 (by decide +kernel) rfl
theorem ln_RL_155 : Gd (.methodLink RL 155 yX11_setRule) := gd 1484 (by decide +kernel) rfl
theorem ln_RL_159 : Gd (.methodLink RL 159 yX11_takeBest) := gd 1501 (by decide +kernel) rfl
theorem ln_RL_162 : Gd (.methodLink RL 162 yX11_permit) := gd 1510 (by decide +kernel) rfl
theorem ln_RL_166 : Gd (.methodLink RL 166 yX11_setLimit) := gd 1518 (by decide +kernel) rfl
theorem ln_RL_169 : Gd (.methodLink RL 169 yX11_setStart) := gd 1525 (by decide +kernel) rfl
theorem ln_RL_172 : Gd (.methodLink RL 172 yX11_setHorizon) := gd 1532 (by decide +kernel) rfl
theorem ln_RL_175 : Gd (.methodLink RL 175 yX11_walk) := gd 1539 (by decide +kernel) rfl
theorem ln_RL_178 : Gd (.methodLink RL 178 yX11_undo) := gd 1547 (by decide +kernel) rfl
theorem ln_RL_181 : Gd (.methodLink RL 181 yX11_save) := gd 1559 (by decide +kernel) rfl
theorem ln_RL_184 : Gd (.methodLink RL 184 yX11_restore) := gd 1574 (by decide +kernel) rfl
theorem mw_X11_actions : MW yX11_actions cX11_actions 2 (some .int) 1 := ⟨gd 123 (by decide +kernel) rfl, gd 919 (by decide +kernel) rfl, ⟨by decide, by decide⟩, by decide +kernel⟩
theorem mw_X11_bestAction : MW yX11_bestAction cX11_bestAction 2 (some .int) 1 := ⟨gd 123 (by decide +kernel) rfl, gd 1333 (by decide +kernel) rfl, ⟨by decide, by decide⟩, by decide +kernel⟩
theorem mw_X11_bestGain : MW yX11_bestGain cX11_bestGain 1 (some .long) 0 := ⟨gd 123 (by decide +kernel) rfl, gd 1288 (by decide +kernel) rfl, ⟨by decide, by decide⟩, by decide +kernel⟩
theorem mw_X11_bestWeight : MW yX11_bestWeight cX11_bestWeight 8 (some .int) 3 := ⟨gd 123 (by decide +kernel) rfl, gd 1375 (by decide +kernel) rfl, ⟨by decide, by decide⟩, by decide +kernel⟩
theorem mw_X11_broken : MW yX11_broken cX11_broken 1 (some .int) 0 := ⟨gd 123 (by decide +kernel) rfl, gd 1132 (by decide +kernel) rfl, ⟨by decide, by decide⟩, by decide +kernel⟩
theorem mw_X11_busiest : MW yX11_busiest cX11_busiest 3 (some .int) 1 := ⟨gd 123 (by decide +kernel) rfl, gd 1193 (by decide +kernel) rfl, ⟨by decide, by decide⟩, by decide +kernel⟩
theorem mw_X11_firstTime : MW yX11_firstTime cX11_firstTime 3 (some .int) 1 := ⟨gd 123 (by decide +kernel) rfl, gd 1186 (by decide +kernel) rfl, ⟨by decide, by decide⟩, by decide +kernel⟩
theorem mw_X11_flow : MW yX11_flow cX11_flow 3 (some .long) 2 := ⟨gd 123 (by decide +kernel) rfl, gd 1048 (by decide +kernel) rfl, ⟨by decide, by decide⟩, by decide +kernel⟩
theorem mw_X11_gain : MW yX11_gain cX11_gain 3 (some .int) 2 := ⟨gd 123 (by decide +kernel) rfl, gd 931 (by decide +kernel) rfl, ⟨by decide, by decide⟩, by decide +kernel⟩
theorem mw_X11_gainOfRun : MW yX11_gainOfRun cX11_gainOfRun 1 (some .long) 0 := ⟨gd 123 (by decide +kernel) rfl, gd 1102 (by decide +kernel) rfl, ⟨by decide, by decide⟩, by decide +kernel⟩
theorem mw_X11_gainOfWalks : MW yX11_gainOfWalks cX11_gainOfWalks 4 (some .int) 1 := ⟨gd 123 (by decide +kernel) rfl, gd 1430 (by decide +kernel) rfl, ⟨by decide, by decide⟩, by decide +kernel⟩
theorem mw_X11_hit : MW yX11_hit cX11_hit 2 (some .long) 1 := ⟨gd 123 (by decide +kernel) rfl, gd 1079 (by decide +kernel) rfl, ⟨by decide, by decide⟩, by decide +kernel⟩
theorem mw_X11_isClosed : MW yX11_isClosed cX11_isClosed 3 (some .boolean) 1 := ⟨gd 123 (by decide +kernel) rfl, gd 1037 (by decide +kernel) rfl, ⟨by decide, by decide⟩, by decide +kernel⟩
theorem mw_X11_isPermitted : MW yX11_isPermitted cX11_isPermitted 3 (some .boolean) 2 := ⟨gd 123 (by decide +kernel) rfl, gd 971 (by decide +kernel) rfl, ⟨by decide, by decide⟩, by decide +kernel⟩
theorem mw_X11_leastLimit : MW yX11_leastLimit cX11_leastLimit 2 (some .int) 1 := ⟨gd 123 (by decide +kernel) rfl, gd 1359 (by decide +kernel) rfl, ⟨by decide, by decide⟩, by decide +kernel⟩
theorem mw_X11_left : MW yX11_left cX11_left 2 (some .long) 1 := ⟨gd 123 (by decide +kernel) rfl, gd 1125 (by decide +kernel) rfl, ⟨by decide, by decide⟩, by decide +kernel⟩
theorem mw_X11_likeliest : MW yX11_likeliest cX11_likeliest 1 (some .long) 0 := ⟨gd 123 (by decide +kernel) rfl, gd 1212 (by decide +kernel) rfl, ⟨by decide, by decide⟩, by decide +kernel⟩
theorem mw_X11_likeliestAt : MW yX11_likeliestAt cX11_likeliestAt 2 (some .int) 1 := ⟨gd 123 (by decide +kernel) rfl, gd 1234 (by decide +kernel) rfl, ⟨by decide, by decide⟩, by decide +kernel⟩
theorem mw_X11_limit : MW yX11_limit cX11_limit 2 (some .int) 1 := ⟨gd 123 (by decide +kernel) rfl, gd 982 (by decide +kernel) rfl, ⟨by decide, by decide⟩, by decide +kernel⟩
theorem mw_X11_load : MW yX11_load cX11_load 3 (some .int) 1 := ⟨gd 123 (by decide +kernel) rfl, gd 590 (by decide +kernel) rfl, ⟨by decide, by decide⟩, by decide +kernel⟩
theorem mw_X11_meanGain : MW yX11_meanGain cX11_meanGain 1 (some .float) 0 := ⟨gd 123 (by decide +kernel) rfl, gd 1205 (by decide +kernel) rfl, ⟨by decide, by decide⟩, by decide +kernel⟩
theorem mw_X11_mostUsed : MW yX11_mostUsed cX11_mostUsed 2 (some .int) 1 := ⟨gd 123 (by decide +kernel) rfl, gd 1167 (by decide +kernel) rfl, ⟨by decide, by decide⟩, by decide +kernel⟩
theorem mw_X11_percent : MW yX11_percent cX11_percent 4 (some .int) 3 := ⟨gd 123 (by decide +kernel) rfl, gd 956 (by decide +kernel) rfl, ⟨by decide, by decide⟩, by decide +kernel⟩
theorem mw_X11_permit : MW yX11_permit cX11_permit 6 (some .boolean) 3 := ⟨gd 123 (by decide +kernel) rfl, gd 1513 (by decide +kernel) rfl, ⟨by decide, by decide⟩, by decide +kernel⟩
theorem mw_X11_pureSets : MW yX11_pureSets cX11_pureSets 1 (some .int) 0 := ⟨gd 123 (by decide +kernel) rfl, gd 1341 (by decide +kernel) rfl, ⟨by decide, by decide⟩, by decide +kernel⟩
theorem mw_X11_reach : MW yX11_reach cX11_reach 4 (some .int) 1 := ⟨gd 123 (by decide +kernel) rfl, gd 989 (by decide +kernel) rfl, ⟨by decide, by decide⟩, by decide +kernel⟩
theorem mw_X11_report : MW yX11_report cX11_report 3 (some .int) 1 := ⟨gd 123 (by decide +kernel) rfl, gd 1459 (by decide +kernel) rfl, ⟨by decide, by decide⟩, by decide +kernel⟩
theorem mw_X11_reportByte : MW yX11_reportByte cX11_reportByte 2 (some .int) 1 := ⟨gd 123 (by decide +kernel) rfl, gd 1479 (by decide +kernel) rfl, ⟨by decide, by decide⟩, by decide +kernel⟩
theorem mw_X11_restore : MW yX11_restore cX11_restore 2 (some .int) 1 := ⟨gd 123 (by decide +kernel) rfl, gd 1577 (by decide +kernel) rfl, ⟨by decide, by decide⟩, by decide +kernel⟩
theorem mw_X11_save : MW yX11_save cX11_save 2 (some .int) 1 := ⟨gd 123 (by decide +kernel) rfl, gd 1562 (by decide +kernel) rfl, ⟨by decide, by decide⟩, by decide +kernel⟩
theorem mw_X11_seed : MW yX11_seed cX11_seed 1 (some .int) 0 := ⟨gd 123 (by decide +kernel) rfl, gd 1385 (by decide +kernel) rfl, ⟨by decide, by decide⟩, by decide +kernel⟩
theorem mw_X11_setHorizon : MW yX11_setHorizon cX11_setHorizon 3 (some .int) 1 := ⟨gd 123 (by decide +kernel) rfl, gd 1535 (by decide +kernel) rfl, ⟨by decide, by decide⟩, by decide +kernel⟩
theorem mw_X11_setLimit : MW yX11_setLimit cX11_setLimit 4 (some .int) 2 := ⟨gd 123 (by decide +kernel) rfl, gd 1521 (by decide +kernel) rfl, ⟨by decide, by decide⟩, by decide +kernel⟩
theorem mw_X11_setRule : MW yX11_setRule cX11_setRule 5 (some .int) 4 := ⟨gd 123 (by decide +kernel) rfl, gd 1487 (by decide +kernel) rfl, ⟨by decide, by decide⟩, by decide +kernel⟩
theorem mw_X11_setStart : MW yX11_setStart cX11_setStart 3 (some .int) 1 := ⟨gd 123 (by decide +kernel) rfl, gd 1528 (by decide +kernel) rfl, ⟨by decide, by decide⟩, by decide +kernel⟩
theorem mw_X11_start : MW yX11_start cX11_start 1 (some .int) 0 := ⟨gd 123 (by decide +kernel) rfl, gd 892 (by decide +kernel) rfl, ⟨by decide, by decide⟩, by decide +kernel⟩
theorem mw_X11_takeBest : MW yX11_takeBest cX11_takeBest 3 (some .int) 0 := ⟨gd 123 (by decide +kernel) rfl, gd 1504 (by decide +kernel) rfl, ⟨by decide, by decide⟩, by decide +kernel⟩
theorem mw_X11_undo : MW yX11_undo cX11_undo 1 (some .int) 0 := ⟨gd 123 (by decide +kernel) rfl, gd 1550 (by decide +kernel) rfl, ⟨by decide, by decide⟩, by decide +kernel⟩
theorem mw_X11_unit : MW yX11_unit cX11_unit 1 (some .long) 0 := ⟨gd 123 (by decide +kernel) rfl, gd 1090 (by decide +kernel) rfl, ⟨by decide, by decide⟩, by decide +kernel⟩
theorem mw_X11_use : MW yX11_use cX11_use 4 (some .long) 3 := ⟨gd 123 (by decide +kernel) rfl, gd 1055 (by decide +kernel) rfl, ⟨by decide, by decide⟩, by decide +kernel⟩
theorem mw_X11_usedOfRun : MW yX11_usedOfRun cX11_usedOfRun 2 (some .long) 1 := ⟨gd 123 (by decide +kernel) rfl, gd 1113 (by decide +kernel) rfl, ⟨by decide, by decide⟩, by decide +kernel⟩
theorem mw_X11_uses : MW yX11_uses cX11_uses 4 (some .int) 3 := ⟨gd 123 (by decide +kernel) rfl, gd 943 (by decide +kernel) rfl, ⟨by decide, by decide⟩, by decide +kernel⟩
theorem mw_X11_value : MW yX11_value cX11_value 3 (some .long) 2 := ⟨gd 123 (by decide +kernel) rfl, gd 1249 (by decide +kernel) rfl, ⟨by decide, by decide⟩, by decide +kernel⟩
theorem mw_X11_valueAction : MW yX11_valueAction cX11_valueAction 3 (some .int) 2 := ⟨gd 123 (by decide +kernel) rfl, gd 1280 (by decide +kernel) rfl, ⟨by decide, by decide⟩, by decide +kernel⟩
theorem mw_X11_visits : MW yX11_visits cX11_visits 2 (some .long) 1 := ⟨gd 123 (by decide +kernel) rfl, gd 1062 (by decide +kernel) rfl, ⟨by decide, by decide⟩, by decide +kernel⟩
theorem mw_X11_walk : MW yX11_walk cX11_walk 2 (some .int) 0 := ⟨gd 123 (by decide +kernel) rfl, gd 1542 (by decide +kernel) rfl, ⟨by decide, by decide⟩, by decide +kernel⟩
theorem mw_X11_walkGain : MW yX11_walkGain cX11_walkGain 3 (some .int) 0 := ⟨gd 123 (by decide +kernel) rfl, gd 1411 (by decide +kernel) rfl, ⟨by decide, by decide⟩, by decide +kernel⟩
theorem mw_X11_walkUsed : MW yX11_walkUsed cX11_walkUsed 4 (some .int) 1 := ⟨gd 123 (by decide +kernel) rfl, gd 1423 (by decide +kernel) rfl, ⟨by decide, by decide⟩, by decide +kernel⟩
theorem mw_X11_walked : MW yX11_walked cX11_walked 2 (some .int) 1 := ⟨gd 123 (by decide +kernel) rfl, gd 1392 (by decide +kernel) rfl, ⟨by decide, by decide⟩, by decide +kernel⟩
theorem mw_X11_walkedBy : MW yX11_walkedBy cX11_walkedBy 2 (some .int) 1 := ⟨gd 123 (by decide +kernel) rfl, gd 1404 (by decide +kernel) rfl, ⟨by decide, by decide⟩, by decide +kernel⟩
theorem mw_X11_weight : MW yX11_weight cX11_weight 3 (some .int) 2 := ⟨gd 123 (by decide +kernel) rfl, gd 964 (by decide +kernel) rfl, ⟨by decide, by decide⟩, by decide +kernel⟩
theorem mw_X11_within : MW yX11_within cX11_within 2 (some .long) 1 := ⟨gd 123 (by decide +kernel) rfl, gd 1143 (by decide +kernel) rfl, ⟨by decide, by decide⟩, by decide +kernel⟩
theorem mw_X11_worth : MW yX11_worth cX11_worth 5 (some .long) 2 := ⟨gd 123 (by decide +kernel) rfl, gd 1352 (by decide +kernel) rfl, ⟨by decide, by decide⟩, by decide +kernel⟩
theorem mi_X11_actions : (Gd (.instanceMethod yX11_actions) ∧ Gd (.selects yX11_actions.cls yX11_actions yX11_actions)) := ⟨gd 917 (by decide +kernel) rfl, gd 918 (by decide +kernel) rfl⟩
theorem mi_X11_bestAction : (Gd (.instanceMethod yX11_bestAction) ∧ Gd (.selects yX11_bestAction.cls yX11_bestAction yX11_bestAction)) := ⟨gd 1331 (by decide +kernel) rfl, gd 1332 (by decide +kernel) rfl⟩
theorem mi_X11_bestGain : (Gd (.instanceMethod yX11_bestGain) ∧ Gd (.selects yX11_bestGain.cls yX11_bestGain yX11_bestGain)) := ⟨gd 1286 (by decide +kernel) rfl, gd 1287 (by decide +kernel) rfl⟩
theorem mi_X11_bestWeight : (Gd (.instanceMethod yX11_bestWeight) ∧ Gd (.selects yX11_bestWeight.cls yX11_bestWeight yX11_bestWeight)) := ⟨gd 1373 (by decide +kernel) rfl, gd 1374 (by decide +kernel) rfl⟩
theorem mi_X11_broken : (Gd (.instanceMethod yX11_broken) ∧ Gd (.selects yX11_broken.cls yX11_broken yX11_broken)) := ⟨gd 1130 (by decide +kernel) rfl, gd 1131 (by decide +kernel) rfl⟩
theorem mi_X11_busiest : (Gd (.instanceMethod yX11_busiest) ∧ Gd (.selects yX11_busiest.cls yX11_busiest yX11_busiest)) := ⟨gd 1191 (by decide +kernel) rfl, gd 1192 (by decide +kernel) rfl⟩
theorem mi_X11_firstTime : (Gd (.instanceMethod yX11_firstTime) ∧ Gd (.selects yX11_firstTime.cls yX11_firstTime yX11_firstTime)) := ⟨gd 1184 (by decide +kernel) rfl, gd 1185 (by decide +kernel) rfl⟩
theorem mi_X11_flow : (Gd (.instanceMethod yX11_flow) ∧ Gd (.selects yX11_flow.cls yX11_flow yX11_flow)) := ⟨gd 1046 (by decide +kernel) rfl, gd 1047 (by decide +kernel) rfl⟩
theorem mi_X11_gain : (Gd (.instanceMethod yX11_gain) ∧ Gd (.selects yX11_gain.cls yX11_gain yX11_gain)) := ⟨gd 929 (by decide +kernel) rfl, gd 930 (by decide +kernel) rfl⟩
theorem mi_X11_gainOfRun : (Gd (.instanceMethod yX11_gainOfRun) ∧ Gd (.selects yX11_gainOfRun.cls yX11_gainOfRun yX11_gainOfRun)) := ⟨gd 1100 (by decide +kernel) rfl, gd 1101 (by decide +kernel) rfl⟩
theorem mi_X11_gainOfWalks : (Gd (.instanceMethod yX11_gainOfWalks) ∧ Gd (.selects yX11_gainOfWalks.cls yX11_gainOfWalks yX11_gainOfWalks)) := ⟨gd 1428 (by decide +kernel) rfl, gd 1429 (by decide +kernel) rfl⟩
theorem mi_X11_hit : (Gd (.instanceMethod yX11_hit) ∧ Gd (.selects yX11_hit.cls yX11_hit yX11_hit)) := ⟨gd 1077 (by decide +kernel) rfl, gd 1078 (by decide +kernel) rfl⟩
theorem mi_X11_isClosed : (Gd (.instanceMethod yX11_isClosed) ∧ Gd (.selects yX11_isClosed.cls yX11_isClosed yX11_isClosed)) := ⟨gd 1035 (by decide +kernel) rfl, gd 1036 (by decide +kernel) rfl⟩
theorem mi_X11_isPermitted : (Gd (.instanceMethod yX11_isPermitted) ∧ Gd (.selects yX11_isPermitted.cls yX11_isPermitted yX11_isPermitted)) := ⟨gd 969 (by decide +kernel) rfl, gd 970 (by decide +kernel) rfl⟩
theorem mi_X11_leastLimit : (Gd (.instanceMethod yX11_leastLimit) ∧ Gd (.selects yX11_leastLimit.cls yX11_leastLimit yX11_leastLimit)) := ⟨gd 1357 (by decide +kernel) rfl, gd 1358 (by decide +kernel) rfl⟩
theorem mi_X11_left : (Gd (.instanceMethod yX11_left) ∧ Gd (.selects yX11_left.cls yX11_left yX11_left)) := ⟨gd 1123 (by decide +kernel) rfl, gd 1124 (by decide +kernel) rfl⟩
theorem mi_X11_likeliest : (Gd (.instanceMethod yX11_likeliest) ∧ Gd (.selects yX11_likeliest.cls yX11_likeliest yX11_likeliest)) := ⟨gd 1210 (by decide +kernel) rfl, gd 1211 (by decide +kernel) rfl⟩
theorem mi_X11_likeliestAt : (Gd (.instanceMethod yX11_likeliestAt) ∧ Gd (.selects yX11_likeliestAt.cls yX11_likeliestAt yX11_likeliestAt)) := ⟨gd 1232 (by decide +kernel) rfl, gd 1233 (by decide +kernel) rfl⟩
theorem mi_X11_limit : (Gd (.instanceMethod yX11_limit) ∧ Gd (.selects yX11_limit.cls yX11_limit yX11_limit)) := ⟨gd 980 (by decide +kernel) rfl, gd 981 (by decide +kernel) rfl⟩
theorem mi_X11_load : (Gd (.instanceMethod yX11_load) ∧ Gd (.selects yX11_load.cls yX11_load yX11_load)) := ⟨gd 588 (by decide +kernel) rfl, gd 589 (by decide +kernel) rfl⟩
theorem mi_X11_meanGain : (Gd (.instanceMethod yX11_meanGain) ∧ Gd (.selects yX11_meanGain.cls yX11_meanGain yX11_meanGain)) := ⟨gd 1203 (by decide +kernel) rfl, gd 1204 (by decide +kernel) rfl⟩
theorem mi_X11_mostUsed : (Gd (.instanceMethod yX11_mostUsed) ∧ Gd (.selects yX11_mostUsed.cls yX11_mostUsed yX11_mostUsed)) := ⟨gd 1165 (by decide +kernel) rfl, gd 1166 (by decide +kernel) rfl⟩
theorem mi_X11_percent : (Gd (.instanceMethod yX11_percent) ∧ Gd (.selects yX11_percent.cls yX11_percent yX11_percent)) := ⟨gd 954 (by decide +kernel) rfl, gd 955 (by decide +kernel) rfl⟩
theorem mi_X11_permit : (Gd (.instanceMethod yX11_permit) ∧ Gd (.selects yX11_permit.cls yX11_permit yX11_permit)) := ⟨gd 1511 (by decide +kernel) rfl, gd 1512 (by decide +kernel) rfl⟩
theorem mi_X11_pureSets : (Gd (.instanceMethod yX11_pureSets) ∧ Gd (.selects yX11_pureSets.cls yX11_pureSets yX11_pureSets)) := ⟨gd 1339 (by decide +kernel) rfl, gd 1340 (by decide +kernel) rfl⟩
theorem mi_X11_reach : (Gd (.instanceMethod yX11_reach) ∧ Gd (.selects yX11_reach.cls yX11_reach yX11_reach)) := ⟨gd 987 (by decide +kernel) rfl, gd 988 (by decide +kernel) rfl⟩
theorem mi_X11_report : (Gd (.instanceMethod yX11_report) ∧ Gd (.selects yX11_report.cls yX11_report yX11_report)) := ⟨gd 1457 (by decide +kernel) rfl, gd 1458 (by decide +kernel) rfl⟩
theorem mi_X11_reportByte : (Gd (.instanceMethod yX11_reportByte) ∧ Gd (.selects yX11_reportByte.cls yX11_reportByte yX11_reportByte)) := ⟨gd 1477 (by decide +kernel) rfl, gd 1478 (by decide +kernel) rfl⟩
theorem mi_X11_restore : (Gd (.instanceMethod yX11_restore) ∧ Gd (.selects yX11_restore.cls yX11_restore yX11_restore)) := ⟨gd 1575 (by decide +kernel) rfl, gd 1576 (by decide +kernel) rfl⟩
theorem mi_X11_save : (Gd (.instanceMethod yX11_save) ∧ Gd (.selects yX11_save.cls yX11_save yX11_save)) := ⟨gd 1560 (by decide +kernel) rfl, gd 1561 (by decide +kernel) rfl⟩
theorem mi_X11_seed : (Gd (.instanceMethod yX11_seed) ∧ Gd (.selects yX11_seed.cls yX11_seed yX11_seed)) := ⟨gd 1383 (by decide +kernel) rfl, gd 1384 (by decide +kernel) rfl⟩
theorem mi_X11_setHorizon : (Gd (.instanceMethod yX11_setHorizon) ∧ Gd (.selects yX11_setHorizon.cls yX11_setHorizon yX11_setHorizon)) := ⟨gd 1533 (by decide +kernel) rfl, gd 1534 (by decide +kernel) rfl⟩
theorem mi_X11_setLimit : (Gd (.instanceMethod yX11_setLimit) ∧ Gd (.selects yX11_setLimit.cls yX11_setLimit yX11_setLimit)) := ⟨gd 1519 (by decide +kernel) rfl, gd 1520 (by decide +kernel) rfl⟩
theorem mi_X11_setRule : (Gd (.instanceMethod yX11_setRule) ∧ Gd (.selects yX11_setRule.cls yX11_setRule yX11_setRule)) := ⟨gd 1485 (by decide +kernel) rfl, gd 1486 (by decide +kernel) rfl⟩
theorem mi_X11_setStart : (Gd (.instanceMethod yX11_setStart) ∧ Gd (.selects yX11_setStart.cls yX11_setStart yX11_setStart)) := ⟨gd 1526 (by decide +kernel) rfl, gd 1527 (by decide +kernel) rfl⟩
theorem mi_X11_start : (Gd (.instanceMethod yX11_start) ∧ Gd (.selects yX11_start.cls yX11_start yX11_start)) := ⟨gd 890 (by decide +kernel) rfl, gd 891 (by decide +kernel) rfl⟩
theorem mi_X11_takeBest : (Gd (.instanceMethod yX11_takeBest) ∧ Gd (.selects yX11_takeBest.cls yX11_takeBest yX11_takeBest)) := ⟨gd 1502 (by decide +kernel) rfl, gd 1503 (by decide +kernel) rfl⟩
theorem mi_X11_undo : (Gd (.instanceMethod yX11_undo) ∧ Gd (.selects yX11_undo.cls yX11_undo yX11_undo)) := ⟨gd 1548 (by decide +kernel) rfl, gd 1549 (by decide +kernel) rfl⟩
theorem mi_X11_unit : (Gd (.instanceMethod yX11_unit) ∧ Gd (.selects yX11_unit.cls yX11_unit yX11_unit)) := ⟨gd 1088 (by decide +kernel) rfl, gd 1089 (by decide +kernel) rfl⟩
theorem mi_X11_use : (Gd (.instanceMethod yX11_use) ∧ Gd (.selects yX11_use.cls yX11_use yX11_use)) := ⟨gd 1053 (by decide +kernel) rfl, gd 1054 (by decide +kernel) rfl⟩
theorem mi_X11_usedOfRun : (Gd (.instanceMethod yX11_usedOfRun) ∧ Gd (.selects yX11_usedOfRun.cls yX11_usedOfRun yX11_usedOfRun)) := ⟨gd 1111 (by decide +kernel) rfl, gd 1112 (by decide +kernel) rfl⟩
theorem mi_X11_uses : (Gd (.instanceMethod yX11_uses) ∧ Gd (.selects yX11_uses.cls yX11_uses yX11_uses)) := ⟨gd 941 (by decide +kernel) rfl, gd 942 (by decide +kernel) rfl⟩
theorem mi_X11_value : (Gd (.instanceMethod yX11_value) ∧ Gd (.selects yX11_value.cls yX11_value yX11_value)) := ⟨gd 1247 (by decide +kernel) rfl, gd 1248 (by decide +kernel) rfl⟩
theorem mi_X11_valueAction : (Gd (.instanceMethod yX11_valueAction) ∧ Gd (.selects yX11_valueAction.cls yX11_valueAction yX11_valueAction)) := ⟨gd 1278 (by decide +kernel) rfl, gd 1279 (by decide +kernel) rfl⟩
theorem mi_X11_visits : (Gd (.instanceMethod yX11_visits) ∧ Gd (.selects yX11_visits.cls yX11_visits yX11_visits)) := ⟨gd 1060 (by decide +kernel) rfl, gd 1061 (by decide +kernel) rfl⟩
theorem mi_X11_walk : (Gd (.instanceMethod yX11_walk) ∧ Gd (.selects yX11_walk.cls yX11_walk yX11_walk)) := ⟨gd 1540 (by decide +kernel) rfl, gd 1541 (by decide +kernel) rfl⟩
theorem mi_X11_walkGain : (Gd (.instanceMethod yX11_walkGain) ∧ Gd (.selects yX11_walkGain.cls yX11_walkGain yX11_walkGain)) := ⟨gd 1409 (by decide +kernel) rfl, gd 1410 (by decide +kernel) rfl⟩
theorem mi_X11_walkUsed : (Gd (.instanceMethod yX11_walkUsed) ∧ Gd (.selects yX11_walkUsed.cls yX11_walkUsed yX11_walkUsed)) := ⟨gd 1421 (by decide +kernel) rfl, gd 1422 (by decide +kernel) rfl⟩
theorem mi_X11_walked : (Gd (.instanceMethod yX11_walked) ∧ Gd (.selects yX11_walked.cls yX11_walked yX11_walked)) := ⟨gd 1390 (by decide +kernel) rfl, gd 1391 (by decide +kernel) rfl⟩
theorem mi_X11_walkedBy : (Gd (.instanceMethod yX11_walkedBy) ∧ Gd (.selects yX11_walkedBy.cls yX11_walkedBy yX11_walkedBy)) := ⟨gd 1402 (by decide +kernel) rfl, gd 1403 (by decide +kernel) rfl⟩
theorem mi_X11_weight : (Gd (.instanceMethod yX11_weight) ∧ Gd (.selects yX11_weight.cls yX11_weight yX11_weight)) := ⟨gd 962 (by decide +kernel) rfl, gd 963 (by decide +kernel) rfl⟩
theorem mi_X11_within : (Gd (.instanceMethod yX11_within) ∧ Gd (.selects yX11_within.cls yX11_within yX11_within)) := ⟨gd 1141 (by decide +kernel) rfl, gd 1142 (by decide +kernel) rfl⟩
theorem mi_X11_worth : (Gd (.instanceMethod yX11_worth) ∧ Gd (.selects yX11_worth.cls yX11_worth yX11_worth)) := ⟨gd 1350 (by decide +kernel) rfl, gd 1351 (by decide +kernel) rfl⟩
theorem clk0 : Gd (.classLink RL 21 (xN 0)) := gd 888 (by decide +kernel) rfl
theorem ckk0 : Gd (.castable (xN 0) (xN 0)) := gd 899 (by decide +kernel) rfl
theorem clk1 : Gd (.classLink RL 13 (xN 1)) := gd 585 (by decide +kernel) rfl
theorem ckk1 : Gd (.castable (xN 1) (xN 1)) := gd 593 (by decide +kernel) rfl
theorem clk2 : Gd (.classLink RL 15 (xN 2)) := gd 586 (by decide +kernel) rfl
theorem ckk2 : Gd (.castable (xN 2) (xN 2)) := gd 843 (by decide +kernel) rfl
theorem mww_L_load : MWW yL_load cL_load 4 (some .int) [(0, 9, 12, 13), (0, 9, 15, 15)] 3 := ⟨gd 122 (by decide +kernel) rfl, gd 584 (by decide +kernel) rfl, ⟨by decide, by decide⟩, by decide +kernel, gd 583 (by decide +kernel) rfl⟩
theorem mww_L_start : MWW yL_start cL_start 3 (some .int) [(0, 8, 11, 21)] 2 := ⟨gd 122 (by decide +kernel) rfl, gd 887 (by decide +kernel) rfl, ⟨by decide, by decide⟩, by decide +kernel, gd 886 (by decide +kernel) rfl⟩
theorem mww_L_actions : MWW yL_actions cL_actions 4 (some .int) [(0, 9, 12, 21), (0, 9, 15, 13)] 3 := ⟨gd 122 (by decide +kernel) rfl, gd 915 (by decide +kernel) rfl, ⟨by decide, by decide⟩, by decide +kernel, gd 914 (by decide +kernel) rfl⟩
theorem mww_L_gain : MWW yL_gain cL_gain 5 (some .int) [(0, 10, 13, 21), (0, 10, 17, 13)] 4 := ⟨gd 122 (by decide +kernel) rfl, gd 927 (by decide +kernel) rfl, ⟨by decide, by decide⟩, by decide +kernel, gd 926 (by decide +kernel) rfl⟩
theorem mww_L_uses : MWW yL_uses cL_uses 6 (some .int) [(0, 12, 15, 21), (0, 12, 19, 13)] 5 := ⟨gd 122 (by decide +kernel) rfl, gd 939 (by decide +kernel) rfl, ⟨by decide, by decide⟩, by decide +kernel, gd 938 (by decide +kernel) rfl⟩
theorem mww_L_percent : MWW yL_percent cL_percent 6 (some .int) [(0, 12, 15, 21), (0, 12, 19, 13)] 5 := ⟨gd 122 (by decide +kernel) rfl, gd 952 (by decide +kernel) rfl, ⟨by decide, by decide⟩, by decide +kernel, gd 951 (by decide +kernel) rfl⟩
theorem mww_L_weight : MWW yL_weight cL_weight 5 (some .int) [(0, 10, 13, 21), (0, 10, 17, 13)] 4 := ⟨gd 122 (by decide +kernel) rfl, gd 960 (by decide +kernel) rfl, ⟨by decide, by decide⟩, by decide +kernel, gd 959 (by decide +kernel) rfl⟩
theorem mww_L_isPermitted : MWW yL_isPermitted cL_isPermitted 5 (some .int) [(0, 17, 20, 21), (0, 17, 24, 13)] 4 := ⟨gd 122 (by decide +kernel) rfl, gd 967 (by decide +kernel) rfl, ⟨by decide, by decide⟩, by decide +kernel, gd 966 (by decide +kernel) rfl⟩
theorem mww_L_limit : MWW yL_limit cL_limit 4 (some .int) [(0, 9, 12, 21), (0, 9, 15, 13)] 3 := ⟨gd 122 (by decide +kernel) rfl, gd 978 (by decide +kernel) rfl, ⟨by decide, by decide⟩, by decide +kernel, gd 977 (by decide +kernel) rfl⟩
theorem mww_L_reach : MWW yL_reach cL_reach 4 (some .int) [(0, 9, 12, 21), (0, 9, 15, 15)] 3 := ⟨gd 122 (by decide +kernel) rfl, gd 985 (by decide +kernel) rfl, ⟨by decide, by decide⟩, by decide +kernel, gd 984 (by decide +kernel) rfl⟩
theorem mww_L_isClosed : MWW yL_isClosed cL_isClosed 4 (some .int) [(0, 16, 19, 21), (0, 16, 22, 15)] 3 := ⟨gd 122 (by decide +kernel) rfl, gd 1033 (by decide +kernel) rfl, ⟨by decide, by decide⟩, by decide +kernel, gd 1032 (by decide +kernel) rfl⟩
theorem mww_L_flow : MWW yL_flow cL_flow 5 (some .int) [(0, 9, 12, 21), (0, 9, 16, 13), (0, 9, 20, 15)] 4 := ⟨gd 122 (by decide +kernel) rfl, gd 1044 (by decide +kernel) rfl, ⟨by decide, by decide⟩, by decide +kernel, gd 1043 (by decide +kernel) rfl⟩
theorem mww_L_use : MWW yL_use cL_use 6 (some .int) [(0, 11, 14, 21), (0, 11, 18, 13), (0, 11, 22, 15)] 5 := ⟨gd 122 (by decide +kernel) rfl, gd 1051 (by decide +kernel) rfl, ⟨by decide, by decide⟩, by decide +kernel, gd 1050 (by decide +kernel) rfl⟩
theorem mww_L_visits : MWW yL_visits cL_visits 4 (some .int) [(0, 8, 11, 21), (0, 8, 14, 13)] 3 := ⟨gd 122 (by decide +kernel) rfl, gd 1058 (by decide +kernel) rfl, ⟨by decide, by decide⟩, by decide +kernel, gd 1057 (by decide +kernel) rfl⟩
theorem mww_L_hit : MWW yL_hit cL_hit 4 (some .int) [(0, 8, 11, 21), (0, 8, 14, 13)] 3 := ⟨gd 122 (by decide +kernel) rfl, gd 1075 (by decide +kernel) rfl, ⟨by decide, by decide⟩, by decide +kernel, gd 1074 (by decide +kernel) rfl⟩
theorem mww_L_unit : MWW yL_unit cL_unit 3 (some .int) [(0, 7, 10, 21)] 2 := ⟨gd 122 (by decide +kernel) rfl, gd 1086 (by decide +kernel) rfl, ⟨by decide, by decide⟩, by decide +kernel, gd 1085 (by decide +kernel) rfl⟩
theorem mww_L_gainOfRun : MWW yL_gainOfRun cL_gainOfRun 3 (some .int) [(0, 7, 10, 21)] 2 := ⟨gd 122 (by decide +kernel) rfl, gd 1098 (by decide +kernel) rfl, ⟨by decide, by decide⟩, by decide +kernel, gd 1097 (by decide +kernel) rfl⟩
theorem mww_L_usedOfRun : MWW yL_usedOfRun cL_usedOfRun 4 (some .int) [(0, 8, 11, 21), (0, 8, 14, 13)] 3 := ⟨gd 122 (by decide +kernel) rfl, gd 1109 (by decide +kernel) rfl, ⟨by decide, by decide⟩, by decide +kernel, gd 1108 (by decide +kernel) rfl⟩
theorem mww_L_left : MWW yL_left cL_left 4 (some .int) [(0, 8, 11, 21), (0, 8, 14, 13)] 3 := ⟨gd 122 (by decide +kernel) rfl, gd 1121 (by decide +kernel) rfl, ⟨by decide, by decide⟩, by decide +kernel, gd 1120 (by decide +kernel) rfl⟩
theorem mww_L_broken : MWW yL_broken cL_broken 3 (some .int) [(0, 8, 11, 21)] 2 := ⟨gd 122 (by decide +kernel) rfl, gd 1128 (by decide +kernel) rfl, ⟨by decide, by decide⟩, by decide +kernel, gd 1127 (by decide +kernel) rfl⟩
theorem mww_L_within : MWW yL_within cL_within 4 (some .int) [(0, 8, 11, 21), (0, 8, 14, 13)] 3 := ⟨gd 122 (by decide +kernel) rfl, gd 1139 (by decide +kernel) rfl, ⟨by decide, by decide⟩, by decide +kernel, gd 1138 (by decide +kernel) rfl⟩
theorem mww_L_mostUsed : MWW yL_mostUsed cL_mostUsed 4 (some .int) [(0, 9, 12, 21), (0, 9, 15, 13)] 3 := ⟨gd 122 (by decide +kernel) rfl, gd 1163 (by decide +kernel) rfl, ⟨by decide, by decide⟩, by decide +kernel, gd 1162 (by decide +kernel) rfl⟩
theorem mww_L_firstTime : MWW yL_firstTime cL_firstTime 4 (some .int) [(0, 9, 12, 21), (0, 9, 15, 13)] 3 := ⟨gd 122 (by decide +kernel) rfl, gd 1182 (by decide +kernel) rfl, ⟨by decide, by decide⟩, by decide +kernel, gd 1181 (by decide +kernel) rfl⟩
theorem mww_L_busiest : MWW yL_busiest cL_busiest 4 (some .int) [(0, 9, 12, 21), (0, 9, 15, 13)] 3 := ⟨gd 122 (by decide +kernel) rfl, gd 1189 (by decide +kernel) rfl, ⟨by decide, by decide⟩, by decide +kernel, gd 1188 (by decide +kernel) rfl⟩
theorem mww_L_meanGain : MWW yL_meanGain cL_meanGain 3 (some .int) [(0, 8, 11, 21)] 2 := ⟨gd 122 (by decide +kernel) rfl, gd 1201 (by decide +kernel) rfl, ⟨by decide, by decide⟩, by decide +kernel, gd 1200 (by decide +kernel) rfl⟩
theorem mww_L_likeliest : MWW yL_likeliest cL_likeliest 3 (some .int) [(0, 7, 10, 21)] 2 := ⟨gd 122 (by decide +kernel) rfl, gd 1208 (by decide +kernel) rfl, ⟨by decide, by decide⟩, by decide +kernel, gd 1207 (by decide +kernel) rfl⟩
theorem mww_L_likeliestAt : MWW yL_likeliestAt cL_likeliestAt 4 (some .int) [(0, 9, 12, 21), (0, 9, 15, 15)] 3 := ⟨gd 122 (by decide +kernel) rfl, gd 1230 (by decide +kernel) rfl, ⟨by decide, by decide⟩, by decide +kernel, gd 1229 (by decide +kernel) rfl⟩
theorem mww_L_value : MWW yL_value cL_value 5 (some .int) [(0, 9, 12, 21), (0, 9, 16, 13), (0, 9, 20, 15)] 4 := ⟨gd 122 (by decide +kernel) rfl, gd 1245 (by decide +kernel) rfl, ⟨by decide, by decide⟩, by decide +kernel, gd 1244 (by decide +kernel) rfl⟩
theorem mww_L_valueAction : MWW yL_valueAction cL_valueAction 5 (some .int) [(0, 10, 13, 21), (0, 10, 17, 13), (0, 10, 21, 15)] 4 := ⟨gd 122 (by decide +kernel) rfl, gd 1276 (by decide +kernel) rfl, ⟨by decide, by decide⟩, by decide +kernel, gd 1275 (by decide +kernel) rfl⟩
theorem mww_L_bestGain : MWW yL_bestGain cL_bestGain 3 (some .int) [(0, 7, 10, 21)] 2 := ⟨gd 122 (by decide +kernel) rfl, gd 1284 (by decide +kernel) rfl, ⟨by decide, by decide⟩, by decide +kernel, gd 1283 (by decide +kernel) rfl⟩
theorem mww_L_bestAction : MWW yL_bestAction cL_bestAction 4 (some .int) [(0, 9, 12, 21), (0, 9, 15, 13)] 3 := ⟨gd 122 (by decide +kernel) rfl, gd 1329 (by decide +kernel) rfl, ⟨by decide, by decide⟩, by decide +kernel, gd 1328 (by decide +kernel) rfl⟩
theorem mww_L_pureSets : MWW yL_pureSets cL_pureSets 3 (some .int) [(0, 8, 11, 21)] 2 := ⟨gd 122 (by decide +kernel) rfl, gd 1337 (by decide +kernel) rfl, ⟨by decide, by decide⟩, by decide +kernel, gd 1336 (by decide +kernel) rfl⟩
theorem mww_L_worth : MWW yL_worth cL_worth 5 (some .int) [(0, 9, 12, 21), (0, 9, 16, 13), (0, 9, 20, 15)] 4 := ⟨gd 122 (by decide +kernel) rfl, gd 1348 (by decide +kernel) rfl, ⟨by decide, by decide⟩, by decide +kernel, gd 1347 (by decide +kernel) rfl⟩
theorem mww_L_leastLimit : MWW yL_leastLimit cL_leastLimit 4 (some .int) [(0, 9, 12, 21), (0, 9, 15, 13)] 3 := ⟨gd 122 (by decide +kernel) rfl, gd 1355 (by decide +kernel) rfl, ⟨by decide, by decide⟩, by decide +kernel, gd 1354 (by decide +kernel) rfl⟩
theorem mww_L_bestWeight : MWW yL_bestWeight cL_bestWeight 6 (some .int) [(0, 12, 15, 21), (0, 12, 19, 13), (0, 12, 23, 15)] 5 := ⟨gd 122 (by decide +kernel) rfl, gd 1371 (by decide +kernel) rfl, ⟨by decide, by decide⟩, by decide +kernel, gd 1370 (by decide +kernel) rfl⟩
theorem mww_L_seed : MWW yL_seed cL_seed 3 (some .int) [(0, 8, 11, 21)] 2 := ⟨gd 122 (by decide +kernel) rfl, gd 1381 (by decide +kernel) rfl, ⟨by decide, by decide⟩, by decide +kernel, gd 1380 (by decide +kernel) rfl⟩
theorem mww_L_walked : MWW yL_walked cL_walked 4 (some .int) [(0, 9, 12, 21), (0, 9, 15, 15)] 3 := ⟨gd 122 (by decide +kernel) rfl, gd 1388 (by decide +kernel) rfl, ⟨by decide, by decide⟩, by decide +kernel, gd 1387 (by decide +kernel) rfl⟩
theorem mww_L_walkedBy : MWW yL_walkedBy cL_walkedBy 4 (some .int) [(0, 9, 12, 21), (0, 9, 15, 15)] 3 := ⟨gd 122 (by decide +kernel) rfl, gd 1400 (by decide +kernel) rfl, ⟨by decide, by decide⟩, by decide +kernel, gd 1399 (by decide +kernel) rfl⟩
theorem mww_L_walkGain : MWW yL_walkGain cL_walkGain 3 (some .int) [(0, 8, 11, 21)] 2 := ⟨gd 122 (by decide +kernel) rfl, gd 1407 (by decide +kernel) rfl, ⟨by decide, by decide⟩, by decide +kernel, gd 1406 (by decide +kernel) rfl⟩
theorem mww_L_walkUsed : MWW yL_walkUsed cL_walkUsed 4 (some .int) [(0, 9, 12, 21), (0, 9, 15, 13)] 3 := ⟨gd 122 (by decide +kernel) rfl, gd 1419 (by decide +kernel) rfl, ⟨by decide, by decide⟩, by decide +kernel, gd 1418 (by decide +kernel) rfl⟩
theorem mww_L_gainOfWalks : MWW yL_gainOfWalks cL_gainOfWalks 4 (some .int) [(0, 9, 12, 21), (0, 9, 15, 15)] 3 := ⟨gd 122 (by decide +kernel) rfl, gd 1426 (by decide +kernel) rfl, ⟨by decide, by decide⟩, by decide +kernel, gd 1425 (by decide +kernel) rfl⟩
theorem mww_L_report : MWW yL_report cL_report 4 (some .int) [(0, 9, 12, 21), (0, 9, 15, 15)] 3 := ⟨gd 122 (by decide +kernel) rfl, gd 1455 (by decide +kernel) rfl, ⟨by decide, by decide⟩, by decide +kernel, gd 1454 (by decide +kernel) rfl⟩
theorem mww_L_reportByte : MWW yL_reportByte cL_reportByte 4 (some .int) [(0, 9, 12, 13)] 3 := ⟨gd 122 (by decide +kernel) rfl, gd 1475 (by decide +kernel) rfl, ⟨by decide, by decide⟩, by decide +kernel, gd 1474 (by decide +kernel) rfl⟩
theorem mww_L_setRule : MWW yL_setRule cL_setRule 7 (some .int) [(0, 14, 17, 21), (0, 14, 21, 13), (0, 14, 25, 15)] 6 := ⟨gd 122 (by decide +kernel) rfl, gd 1483 (by decide +kernel) rfl, ⟨by decide, by decide⟩, by decide +kernel, gd 1482 (by decide +kernel) rfl⟩
theorem mww_L_takeBest : MWW yL_takeBest cL_takeBest 3 (some .int) [(0, 8, 11, 21)] 2 := ⟨gd 122 (by decide +kernel) rfl, gd 1500 (by decide +kernel) rfl, ⟨by decide, by decide⟩, by decide +kernel, gd 1499 (by decide +kernel) rfl⟩
theorem mww_L_permit : MWW yL_permit cL_permit 6 (some .int) [(0, 19, 22, 21), (0, 19, 26, 13), (0, 19, 30, 15)] 5 := ⟨gd 122 (by decide +kernel) rfl, gd 1509 (by decide +kernel) rfl, ⟨by decide, by decide⟩, by decide +kernel, gd 1508 (by decide +kernel) rfl⟩
theorem mww_L_setLimit : MWW yL_setLimit cL_setLimit 5 (some .int) [(0, 10, 13, 21), (0, 10, 17, 13), (0, 10, 21, 15)] 4 := ⟨gd 122 (by decide +kernel) rfl, gd 1517 (by decide +kernel) rfl, ⟨by decide, by decide⟩, by decide +kernel, gd 1516 (by decide +kernel) rfl⟩
theorem mww_L_setStart : MWW yL_setStart cL_setStart 4 (some .int) [(0, 9, 12, 21), (0, 9, 15, 13)] 3 := ⟨gd 122 (by decide +kernel) rfl, gd 1524 (by decide +kernel) rfl, ⟨by decide, by decide⟩, by decide +kernel, gd 1523 (by decide +kernel) rfl⟩
theorem mww_L_setHorizon : MWW yL_setHorizon cL_setHorizon 4 (some .int) [(0, 9, 12, 21), (0, 9, 15, 15)] 3 := ⟨gd 122 (by decide +kernel) rfl, gd 1531 (by decide +kernel) rfl, ⟨by decide, by decide⟩, by decide +kernel, gd 1530 (by decide +kernel) rfl⟩
theorem mww_L_walk : MWW yL_walk cL_walk 3 (some .int) [(0, 8, 11, 21)] 2 := ⟨gd 122 (by decide +kernel) rfl, gd 1538 (by decide +kernel) rfl, ⟨by decide, by decide⟩, by decide +kernel, gd 1537 (by decide +kernel) rfl⟩
theorem mww_L_undo : MWW yL_undo cL_undo 3 (some .int) [(0, 8, 11, 21)] 2 := ⟨gd 122 (by decide +kernel) rfl, gd 1546 (by decide +kernel) rfl, ⟨by decide, by decide⟩, by decide +kernel, gd 1545 (by decide +kernel) rfl⟩
theorem mww_L_save : MWW yL_save cL_save 4 (some .int) [(0, 9, 12, 21), (0, 9, 15, 13)] 3 := ⟨gd 122 (by decide +kernel) rfl, gd 1558 (by decide +kernel) rfl, ⟨by decide, by decide⟩, by decide +kernel, gd 1557 (by decide +kernel) rfl⟩
theorem mww_L_restore : MWW yL_restore cL_restore 4 (some .int) [(0, 9, 12, 13), (0, 9, 15, 21)] 3 := ⟨gd 122 (by decide +kernel) rfl, gd 1573 (by decide +kernel) rfl, ⟨by decide, by decide⟩, by decide +kernel, gd 1572 (by decide +kernel) rfl⟩
def f_L_load (Z : Nat) (M : Mem) (p1 : Int32) : Option (Int32 × Mem) :=
  clT (f_X11_load Z M p1) (fun v1 M2 => wrL M2 124 1 (0 : Int32) v1.toInt64 (fun M3 => some ((0 : Int32), M3))) (fun e4 M5 => (if e4 = 1 then some ((1 : Int32), M5) else (if e4 = 2 then some ((2 : Int32), M5) else none)))
set_option maxRecDepth 100000 in
theorem c_L_load {Γ : WC} (hN : HN Γ) (hC : NC Γ) {Z : Nat} {M : Mem} {p1 : Int32} {rM : Int32 × Mem}  (hf : f_L_load Z M p1 = some rM) : CtW Γ yL_load cL_load 4 (some .int) [(0, 9, 12, 13), (0, 9, 15, 15)] (rmL 12 1 6) [.ref (wad Γ 0), .int p1, .ref (wad Γ 124)] M (some (.int rM.1)) rM.2 := by
  refine mkW hN.1 (own := RL) rfl (by decide) (Nat.le_of_ble_eq_true rfl) (fun X C hT E => ?_)
  change G Γ X M 0 0 [some (.ref (wad Γ 0)), some (.int p1), some (.ref (wad Γ 124))] [] 0
  unfold f_L_load at hf
  refine x_aload_n C rfl rfl (dkAt dk_L_load 0 rfl) 1 rfl ?_
  refine x_iconst C (v := (0 : Int32)) (by decide) (dkAt dk_L_load 1 rfl) 2 rfl ?_
  refine x_aload_n C rfl rfl (dkAt dk_L_load 2 rfl) 3 rfl ?_
  refine x_iload_n C rfl rfl (dkAt dk_L_load 3 rfl) 4 rfl ?_
  refine h_cVi C hf (fun r hr => c_X11_load hN hr) mw_X11_load ln_RL_7 mi_X11_load (hN.rc (ci := 11) sh0 rc11) (ro_of (by decide) (by decide) (by decide) (by decide)) rfl rfl (Nat.le_of_ble_eq_true rfl) (dkAt dk_L_load 4 rfl) 7 rfl 1 6 rfl rfl (fun v1 M2 hf => ?_) (fun e4 M5 hf => ?_)
  · refine x_i2l C (dkAt dk_L_load 5 rfl) 8 rfl ?_
    refine x_last C (hN.sh sh124) (dkAt dk_L_load 6 rfl) 9 rfl hf (fun M3 hf => ?_)
    refine x_goto C 18 (dkAt dk_L_load 7 rfl) (by decide) ?_
    refine x_iconst C (v := (0 : Int32)) (by decide) (dkAt dk_L_load 14 rfl) 19 rfl ?_
    exact x_iret C E hf (by decide) (by decide) (dkAt dk_L_load 15 rfl)
  · refine if_then hf (fun hE hf => ?_) (fun hE hf => ?_)
    · subst hE
      refine x_catch C hC hT [] ⟨0, 9, 12, 13⟩ [⟨0, 9, 15, 15⟩] rfl (fun _ h => nomatch h) (by decide) (by decide) (by decide) clk1 ckk1 (fun q6 => ?_)
      refine x_astore_n C (L1 := [some (.ref (wad Γ 0)), some (.int p1), some (.ref (wad Γ 124)), some (.ref q6)]) (dkAt dk_L_load 8 rfl) 13 rfl rfl (by decide) rfl ?_
      refine x_iconst C (v := (1 : Int32)) (by decide) (dkAt dk_L_load 9 rfl) 14 rfl ?_
      exact x_iret C E hf (by decide) (by decide) (dkAt dk_L_load 10 rfl)
    · refine if_then hf (fun hE hf => ?_) (fun hE hf => ?_)
      · subst hE
        refine x_catch C hC hT [⟨0, 9, 12, 13⟩] ⟨0, 9, 15, 15⟩ [] rfl (List.forall_mem_cons.mpr ⟨⟨by decide, 1, by decide, by decide, clk1⟩, (fun _ h => nomatch h)⟩) (by decide) (by decide) (by decide) clk2 ckk2 (fun q7 => ?_)
        refine x_astore_n C (L1 := [some (.ref (wad Γ 0)), some (.int p1), some (.ref (wad Γ 124)), some (.ref q7)]) (dkAt dk_L_load 11 rfl) 16 rfl rfl (by decide) rfl ?_
        refine x_iconst C (v := (2 : Int32)) (by decide) (dkAt dk_L_load 12 rfl) 17 rfl ?_
        exact x_iret C E hf (by decide) (by decide) (dkAt dk_L_load 13 rfl)
      · exact nomatch hf
def f_L_start (Z : Nat) (M : Mem)  : Option (Int32 × Mem) :=
  clT (f_X11_start Z M) (fun v1 M2 => wrL M2 124 1 (0 : Int32) v1.toInt64 (fun M3 => some ((0 : Int32), M3))) (fun e4 M5 => (if e4 = 0 then some ((1 : Int32), M5) else none))
set_option maxRecDepth 100000 in
theorem c_L_start {Γ : WC} (hN : HN Γ) (hC : NC Γ) {Z : Nat} {M : Mem}  {rM : Int32 × Mem}  (hf : f_L_start Z M  = some rM) : CtW Γ yL_start cL_start 3 (some .int) [(0, 8, 11, 21)] (rmL 8 1 6) [.ref (wad Γ 0), .ref (wad Γ 124)] M (some (.int rM.1)) rM.2 := by
  refine mkW hN.1 (own := RL) rfl (by decide) (Nat.le_of_ble_eq_true rfl) (fun X C hT E => ?_)
  change G Γ X M 0 0 [some (.ref (wad Γ 0)), some (.ref (wad Γ 124))] [] 0
  unfold f_L_start at hf
  refine x_aload_n C rfl rfl (dkAt dk_L_start 0 rfl) 1 rfl ?_
  refine x_iconst C (v := (0 : Int32)) (by decide) (dkAt dk_L_start 1 rfl) 2 rfl ?_
  refine x_aload_n C rfl rfl (dkAt dk_L_start 2 rfl) 3 rfl ?_
  refine h_cVi C hf (fun r hr => c_X11_start hN hr) mw_X11_start ln_RL_17 mi_X11_start (hN.rc (ci := 11) sh0 rc11) (ro_of (by decide) (by decide) (by decide) (by decide)) rfl rfl (Nat.le_of_ble_eq_true rfl) (dkAt dk_L_start 3 rfl) 6 rfl 1 6 rfl rfl (fun v1 M2 hf => ?_) (fun e4 M5 hf => ?_)
  · refine x_i2l C (dkAt dk_L_start 4 rfl) 7 rfl ?_
    refine x_last C (hN.sh sh124) (dkAt dk_L_start 5 rfl) 8 rfl hf (fun M3 hf => ?_)
    refine x_goto C 14 (dkAt dk_L_start 6 rfl) (by decide) ?_
    refine x_iconst C (v := (0 : Int32)) (by decide) (dkAt dk_L_start 10 rfl) 15 rfl ?_
    exact x_iret C E hf (by decide) (by decide) (dkAt dk_L_start 11 rfl)
  · refine if_then hf (fun hE hf => ?_) (fun hE hf => ?_)
    · subst hE
      refine x_catch C hC hT [] ⟨0, 8, 11, 21⟩ [] rfl (fun _ h => nomatch h) (by decide) (by decide) (by decide) clk0 ckk0 (fun q6 => ?_)
      refine x_astore_n C (L1 := [some (.ref (wad Γ 0)), some (.ref (wad Γ 124)), some (.ref q6)]) (dkAt dk_L_start 7 rfl) 12 rfl rfl (by decide) rfl ?_
      refine x_iconst C (v := (1 : Int32)) (by decide) (dkAt dk_L_start 8 rfl) 13 rfl ?_
      exact x_iret C E hf (by decide) (by decide) (dkAt dk_L_start 9 rfl)
    · exact nomatch hf
def f_L_actions (Z : Nat) (M : Mem) (p1 : Int32) : Option (Int32 × Mem) :=
  clT (f_X11_actions Z M p1) (fun v1 M2 => wrL M2 124 1 (0 : Int32) v1.toInt64 (fun M3 => some ((0 : Int32), M3))) (fun e4 M5 => (if e4 = 0 then some ((1 : Int32), M5) else (if e4 = 1 then some ((2 : Int32), M5) else none)))
set_option maxRecDepth 100000 in
theorem c_L_actions {Γ : WC} (hN : HN Γ) (hC : NC Γ) {Z : Nat} {M : Mem} {p1 : Int32} {rM : Int32 × Mem}  (hf : f_L_actions Z M p1 = some rM) : CtW Γ yL_actions cL_actions 4 (some .int) [(0, 9, 12, 21), (0, 9, 15, 13)] (rmL 9 2 12) [.ref (wad Γ 0), .int p1, .ref (wad Γ 124)] M (some (.int rM.1)) rM.2 := by
  refine mkW hN.1 (own := RL) rfl (by decide) (Nat.le_of_ble_eq_true rfl) (fun X C hT E => ?_)
  change G Γ X M 0 0 [some (.ref (wad Γ 0)), some (.int p1), some (.ref (wad Γ 124))] [] 0
  unfold f_L_actions at hf
  refine x_aload_n C rfl rfl (dkAt dk_L_actions 0 rfl) 1 rfl ?_
  refine x_iconst C (v := (0 : Int32)) (by decide) (dkAt dk_L_actions 1 rfl) 2 rfl ?_
  refine x_aload_n C rfl rfl (dkAt dk_L_actions 2 rfl) 3 rfl ?_
  refine x_iload_n C rfl rfl (dkAt dk_L_actions 3 rfl) 4 rfl ?_
  refine h_cVi C hf (fun r hr => c_X11_actions hN hr) mw_X11_actions ln_RL_23 mi_X11_actions (hN.rc (ci := 11) sh0 rc11) (ro_of (by decide) (by decide) (by decide) (by decide)) rfl rfl (Nat.le_of_ble_eq_true rfl) (dkAt dk_L_actions 4 rfl) 7 rfl 2 12 rfl rfl (fun v1 M2 hf => ?_) (fun e4 M5 hf => ?_)
  · refine x_i2l C (dkAt dk_L_actions 5 rfl) 8 rfl ?_
    refine x_last C (hN.sh sh124) (dkAt dk_L_actions 6 rfl) 9 rfl hf (fun M3 hf => ?_)
    refine x_goto C 18 (dkAt dk_L_actions 7 rfl) (by decide) ?_
    refine x_iconst C (v := (0 : Int32)) (by decide) (dkAt dk_L_actions 14 rfl) 19 rfl ?_
    exact x_iret C E hf (by decide) (by decide) (dkAt dk_L_actions 15 rfl)
  · refine if_then hf (fun hE hf => ?_) (fun hE hf => ?_)
    · subst hE
      refine x_catch C hC hT [] ⟨0, 9, 12, 21⟩ [⟨0, 9, 15, 13⟩] rfl (fun _ h => nomatch h) (by decide) (by decide) (by decide) clk0 ckk0 (fun q6 => ?_)
      refine x_astore_n C (L1 := [some (.ref (wad Γ 0)), some (.int p1), some (.ref (wad Γ 124)), some (.ref q6)]) (dkAt dk_L_actions 8 rfl) 13 rfl rfl (by decide) rfl ?_
      refine x_iconst C (v := (1 : Int32)) (by decide) (dkAt dk_L_actions 9 rfl) 14 rfl ?_
      exact x_iret C E hf (by decide) (by decide) (dkAt dk_L_actions 10 rfl)
    · refine if_then hf (fun hE hf => ?_) (fun hE hf => ?_)
      · subst hE
        refine x_catch C hC hT [⟨0, 9, 12, 21⟩] ⟨0, 9, 15, 13⟩ [] rfl (List.forall_mem_cons.mpr ⟨⟨by decide, 0, by decide, by decide, clk0⟩, (fun _ h => nomatch h)⟩) (by decide) (by decide) (by decide) clk1 ckk1 (fun q7 => ?_)
        refine x_astore_n C (L1 := [some (.ref (wad Γ 0)), some (.int p1), some (.ref (wad Γ 124)), some (.ref q7)]) (dkAt dk_L_actions 11 rfl) 16 rfl rfl (by decide) rfl ?_
        refine x_iconst C (v := (2 : Int32)) (by decide) (dkAt dk_L_actions 12 rfl) 17 rfl ?_
        exact x_iret C E hf (by decide) (by decide) (dkAt dk_L_actions 13 rfl)
      · exact nomatch hf
def f_L_gain (Z : Nat) (M : Mem) (p1 : Int32) (p2 : Int32) : Option (Int32 × Mem) :=
  clT (f_X11_gain Z M p1 p2) (fun v1 M2 => wrL M2 124 1 (0 : Int32) v1.toInt64 (fun M3 => some ((0 : Int32), M3))) (fun e4 M5 => (if e4 = 0 then some ((1 : Int32), M5) else (if e4 = 1 then some ((2 : Int32), M5) else none)))
set_option maxRecDepth 100000 in
theorem c_L_gain {Γ : WC} (hN : HN Γ) (hC : NC Γ) {Z : Nat} {M : Mem} {p1 : Int32} {p2 : Int32} {rM : Int32 × Mem}  (hf : f_L_gain Z M p1 p2 = some rM) : CtW Γ yL_gain cL_gain 5 (some .int) [(0, 10, 13, 21), (0, 10, 17, 13)] (rmL 10 3 18) [.ref (wad Γ 0), .int p1, .int p2, .ref (wad Γ 124)] M (some (.int rM.1)) rM.2 := by
  refine mkW hN.1 (own := RL) rfl (by decide) (Nat.le_of_ble_eq_true rfl) (fun X C hT E => ?_)
  change G Γ X M 0 0 [some (.ref (wad Γ 0)), some (.int p1), some (.int p2), some (.ref (wad Γ 124))] [] 0
  unfold f_L_gain at hf
  refine x_aload_n C rfl rfl (dkAt dk_L_gain 0 rfl) 1 rfl ?_
  refine x_iconst C (v := (0 : Int32)) (by decide) (dkAt dk_L_gain 1 rfl) 2 rfl ?_
  refine x_aload_n C rfl rfl (dkAt dk_L_gain 2 rfl) 3 rfl ?_
  refine x_iload_n C rfl rfl (dkAt dk_L_gain 3 rfl) 4 rfl ?_
  refine x_iload_n C rfl rfl (dkAt dk_L_gain 4 rfl) 5 rfl ?_
  refine h_cVi C hf (fun r hr => c_X11_gain hN hr) mw_X11_gain ln_RL_26 mi_X11_gain (hN.rc (ci := 11) sh0 rc11) (ro_of (by decide) (by decide) (by decide) (by decide)) rfl rfl (Nat.le_of_ble_eq_true rfl) (dkAt dk_L_gain 5 rfl) 8 rfl 3 18 rfl rfl (fun v1 M2 hf => ?_) (fun e4 M5 hf => ?_)
  · refine x_i2l C (dkAt dk_L_gain 6 rfl) 9 rfl ?_
    refine x_last C (hN.sh sh124) (dkAt dk_L_gain 7 rfl) 10 rfl hf (fun M3 hf => ?_)
    refine x_goto C 21 (dkAt dk_L_gain 8 rfl) (by decide) ?_
    refine x_iconst C (v := (0 : Int32)) (by decide) (dkAt dk_L_gain 15 rfl) 22 rfl ?_
    exact x_iret C E hf (by decide) (by decide) (dkAt dk_L_gain 16 rfl)
  · refine if_then hf (fun hE hf => ?_) (fun hE hf => ?_)
    · subst hE
      refine x_catch C hC hT [] ⟨0, 10, 13, 21⟩ [⟨0, 10, 17, 13⟩] rfl (fun _ h => nomatch h) (by decide) (by decide) (by decide) clk0 ckk0 (fun q6 => ?_)
      refine x_astore C (L1 := [some (.ref (wad Γ 0)), some (.int p1), some (.int p2), some (.ref (wad Γ 124)), some (.ref q6)]) (dkAt dk_L_gain 9 rfl) 15 rfl (by decide) rfl ?_
      refine x_iconst C (v := (1 : Int32)) (by decide) (dkAt dk_L_gain 10 rfl) 16 rfl ?_
      exact x_iret C E hf (by decide) (by decide) (dkAt dk_L_gain 11 rfl)
    · refine if_then hf (fun hE hf => ?_) (fun hE hf => ?_)
      · subst hE
        refine x_catch C hC hT [⟨0, 10, 13, 21⟩] ⟨0, 10, 17, 13⟩ [] rfl (List.forall_mem_cons.mpr ⟨⟨by decide, 0, by decide, by decide, clk0⟩, (fun _ h => nomatch h)⟩) (by decide) (by decide) (by decide) clk1 ckk1 (fun q7 => ?_)
        refine x_astore C (L1 := [some (.ref (wad Γ 0)), some (.int p1), some (.int p2), some (.ref (wad Γ 124)), some (.ref q7)]) (dkAt dk_L_gain 12 rfl) 19 rfl (by decide) rfl ?_
        refine x_iconst C (v := (2 : Int32)) (by decide) (dkAt dk_L_gain 13 rfl) 20 rfl ?_
        exact x_iret C E hf (by decide) (by decide) (dkAt dk_L_gain 14 rfl)
      · exact nomatch hf
def f_L_uses (Z : Nat) (M : Mem) (p1 : Int32) (p2 : Int32) (p3 : Int32) : Option (Int32 × Mem) :=
  clT (f_X11_uses Z M p1 p2 p3) (fun v1 M2 => wrL M2 124 1 (0 : Int32) v1.toInt64 (fun M3 => some ((0 : Int32), M3))) (fun e4 M5 => (if e4 = 0 then some ((1 : Int32), M5) else (if e4 = 1 then some ((2 : Int32), M5) else none)))
set_option maxRecDepth 100000 in
theorem c_L_uses {Γ : WC} (hN : HN Γ) (hC : NC Γ) {Z : Nat} {M : Mem} {p1 : Int32} {p2 : Int32} {p3 : Int32} {rM : Int32 × Mem}  (hf : f_L_uses Z M p1 p2 p3 = some rM) : CtW Γ yL_uses cL_uses 6 (some .int) [(0, 12, 15, 21), (0, 12, 19, 13)] (rmL 10 5 30) [.ref (wad Γ 0), .int p1, .int p2, .int p3, .ref (wad Γ 124)] M (some (.int rM.1)) rM.2 := by
  refine mkW hN.1 (own := RL) rfl (by decide) (Nat.le_of_ble_eq_true rfl) (fun X C hT E => ?_)
  change G Γ X M 0 0 [some (.ref (wad Γ 0)), some (.int p1), some (.int p2), some (.int p3), some (.ref (wad Γ 124))] [] 0
  unfold f_L_uses at hf
  refine x_aload C rfl (dkAt dk_L_uses 0 rfl) 2 rfl ?_
  refine x_iconst C (v := (0 : Int32)) (by decide) (dkAt dk_L_uses 1 rfl) 3 rfl ?_
  refine x_aload_n C rfl rfl (dkAt dk_L_uses 2 rfl) 4 rfl ?_
  refine x_iload_n C rfl rfl (dkAt dk_L_uses 3 rfl) 5 rfl ?_
  refine x_iload_n C rfl rfl (dkAt dk_L_uses 4 rfl) 6 rfl ?_
  refine x_iload_n C rfl rfl (dkAt dk_L_uses 5 rfl) 7 rfl ?_
  refine h_cVi C hf (fun r hr => c_X11_uses hN hr) mw_X11_uses ln_RL_30 mi_X11_uses (hN.rc (ci := 11) sh0 rc11) (ro_of (by decide) (by decide) (by decide) (by decide)) rfl rfl (Nat.le_of_ble_eq_true rfl) (dkAt dk_L_uses 6 rfl) 10 rfl 5 30 rfl rfl (fun v1 M2 hf => ?_) (fun e4 M5 hf => ?_)
  · refine x_i2l C (dkAt dk_L_uses 7 rfl) 11 rfl ?_
    refine x_last C (hN.sh sh124) (dkAt dk_L_uses 8 rfl) 12 rfl hf (fun M3 hf => ?_)
    refine x_goto C 23 (dkAt dk_L_uses 9 rfl) (by decide) ?_
    refine x_iconst C (v := (0 : Int32)) (by decide) (dkAt dk_L_uses 16 rfl) 24 rfl ?_
    exact x_iret C E hf (by decide) (by decide) (dkAt dk_L_uses 17 rfl)
  · refine if_then hf (fun hE hf => ?_) (fun hE hf => ?_)
    · subst hE
      refine x_catch C hC hT [] ⟨0, 12, 15, 21⟩ [⟨0, 12, 19, 13⟩] rfl (fun _ h => nomatch h) (by decide) (by decide) (by decide) clk0 ckk0 (fun q6 => ?_)
      refine x_astore C (L1 := [some (.ref (wad Γ 0)), some (.int p1), some (.int p2), some (.int p3), some (.ref (wad Γ 124)), some (.ref q6)]) (dkAt dk_L_uses 10 rfl) 17 rfl (by decide) rfl ?_
      refine x_iconst C (v := (1 : Int32)) (by decide) (dkAt dk_L_uses 11 rfl) 18 rfl ?_
      exact x_iret C E hf (by decide) (by decide) (dkAt dk_L_uses 12 rfl)
    · refine if_then hf (fun hE hf => ?_) (fun hE hf => ?_)
      · subst hE
        refine x_catch C hC hT [⟨0, 12, 15, 21⟩] ⟨0, 12, 19, 13⟩ [] rfl (List.forall_mem_cons.mpr ⟨⟨by decide, 0, by decide, by decide, clk0⟩, (fun _ h => nomatch h)⟩) (by decide) (by decide) (by decide) clk1 ckk1 (fun q7 => ?_)
        refine x_astore C (L1 := [some (.ref (wad Γ 0)), some (.int p1), some (.int p2), some (.int p3), some (.ref (wad Γ 124)), some (.ref q7)]) (dkAt dk_L_uses 13 rfl) 21 rfl (by decide) rfl ?_
        refine x_iconst C (v := (2 : Int32)) (by decide) (dkAt dk_L_uses 14 rfl) 22 rfl ?_
        exact x_iret C E hf (by decide) (by decide) (dkAt dk_L_uses 15 rfl)
      · exact nomatch hf
def f_L_percent (Z : Nat) (M : Mem) (p1 : Int32) (p2 : Int32) (p3 : Int32) : Option (Int32 × Mem) :=
  clT (f_X11_percent Z M p1 p2 p3) (fun v1 M2 => wrL M2 124 1 (0 : Int32) v1.toInt64 (fun M3 => some ((0 : Int32), M3))) (fun e4 M5 => (if e4 = 0 then some ((1 : Int32), M5) else (if e4 = 1 then some ((2 : Int32), M5) else none)))
set_option maxRecDepth 100000 in
theorem c_L_percent {Γ : WC} (hN : HN Γ) (hC : NC Γ) {Z : Nat} {M : Mem} {p1 : Int32} {p2 : Int32} {p3 : Int32} {rM : Int32 × Mem}  (hf : f_L_percent Z M p1 p2 p3 = some rM) : CtW Γ yL_percent cL_percent 6 (some .int) [(0, 12, 15, 21), (0, 12, 19, 13)] (rmL 10 5 30) [.ref (wad Γ 0), .int p1, .int p2, .int p3, .ref (wad Γ 124)] M (some (.int rM.1)) rM.2 := by
  refine mkW hN.1 (own := RL) rfl (by decide) (Nat.le_of_ble_eq_true rfl) (fun X C hT E => ?_)
  change G Γ X M 0 0 [some (.ref (wad Γ 0)), some (.int p1), some (.int p2), some (.int p3), some (.ref (wad Γ 124))] [] 0
  unfold f_L_percent at hf
  refine x_aload C rfl (dkAt dk_L_percent 0 rfl) 2 rfl ?_
  refine x_iconst C (v := (0 : Int32)) (by decide) (dkAt dk_L_percent 1 rfl) 3 rfl ?_
  refine x_aload_n C rfl rfl (dkAt dk_L_percent 2 rfl) 4 rfl ?_
  refine x_iload_n C rfl rfl (dkAt dk_L_percent 3 rfl) 5 rfl ?_
  refine x_iload_n C rfl rfl (dkAt dk_L_percent 4 rfl) 6 rfl ?_
  refine x_iload_n C rfl rfl (dkAt dk_L_percent 5 rfl) 7 rfl ?_
  refine h_cVi C hf (fun r hr => c_X11_percent hN hr) mw_X11_percent ln_RL_34 mi_X11_percent (hN.rc (ci := 11) sh0 rc11) (ro_of (by decide) (by decide) (by decide) (by decide)) rfl rfl (Nat.le_of_ble_eq_true rfl) (dkAt dk_L_percent 6 rfl) 10 rfl 5 30 rfl rfl (fun v1 M2 hf => ?_) (fun e4 M5 hf => ?_)
  · refine x_i2l C (dkAt dk_L_percent 7 rfl) 11 rfl ?_
    refine x_last C (hN.sh sh124) (dkAt dk_L_percent 8 rfl) 12 rfl hf (fun M3 hf => ?_)
    refine x_goto C 23 (dkAt dk_L_percent 9 rfl) (by decide) ?_
    refine x_iconst C (v := (0 : Int32)) (by decide) (dkAt dk_L_percent 16 rfl) 24 rfl ?_
    exact x_iret C E hf (by decide) (by decide) (dkAt dk_L_percent 17 rfl)
  · refine if_then hf (fun hE hf => ?_) (fun hE hf => ?_)
    · subst hE
      refine x_catch C hC hT [] ⟨0, 12, 15, 21⟩ [⟨0, 12, 19, 13⟩] rfl (fun _ h => nomatch h) (by decide) (by decide) (by decide) clk0 ckk0 (fun q6 => ?_)
      refine x_astore C (L1 := [some (.ref (wad Γ 0)), some (.int p1), some (.int p2), some (.int p3), some (.ref (wad Γ 124)), some (.ref q6)]) (dkAt dk_L_percent 10 rfl) 17 rfl (by decide) rfl ?_
      refine x_iconst C (v := (1 : Int32)) (by decide) (dkAt dk_L_percent 11 rfl) 18 rfl ?_
      exact x_iret C E hf (by decide) (by decide) (dkAt dk_L_percent 12 rfl)
    · refine if_then hf (fun hE hf => ?_) (fun hE hf => ?_)
      · subst hE
        refine x_catch C hC hT [⟨0, 12, 15, 21⟩] ⟨0, 12, 19, 13⟩ [] rfl (List.forall_mem_cons.mpr ⟨⟨by decide, 0, by decide, by decide, clk0⟩, (fun _ h => nomatch h)⟩) (by decide) (by decide) (by decide) clk1 ckk1 (fun q7 => ?_)
        refine x_astore C (L1 := [some (.ref (wad Γ 0)), some (.int p1), some (.int p2), some (.int p3), some (.ref (wad Γ 124)), some (.ref q7)]) (dkAt dk_L_percent 13 rfl) 21 rfl (by decide) rfl ?_
        refine x_iconst C (v := (2 : Int32)) (by decide) (dkAt dk_L_percent 14 rfl) 22 rfl ?_
        exact x_iret C E hf (by decide) (by decide) (dkAt dk_L_percent 15 rfl)
      · exact nomatch hf
def f_L_weight (Z : Nat) (M : Mem) (p1 : Int32) (p2 : Int32) : Option (Int32 × Mem) :=
  clT (f_X11_weight Z M p1 p2) (fun v1 M2 => wrL M2 124 1 (0 : Int32) v1.toInt64 (fun M3 => some ((0 : Int32), M3))) (fun e4 M5 => (if e4 = 0 then some ((1 : Int32), M5) else (if e4 = 1 then some ((2 : Int32), M5) else none)))
set_option maxRecDepth 100000 in
theorem c_L_weight {Γ : WC} (hN : HN Γ) (hC : NC Γ) {Z : Nat} {M : Mem} {p1 : Int32} {p2 : Int32} {rM : Int32 × Mem}  (hf : f_L_weight Z M p1 p2 = some rM) : CtW Γ yL_weight cL_weight 5 (some .int) [(0, 10, 13, 21), (0, 10, 17, 13)] (rmL 10 3 18) [.ref (wad Γ 0), .int p1, .int p2, .ref (wad Γ 124)] M (some (.int rM.1)) rM.2 := by
  refine mkW hN.1 (own := RL) rfl (by decide) (Nat.le_of_ble_eq_true rfl) (fun X C hT E => ?_)
  change G Γ X M 0 0 [some (.ref (wad Γ 0)), some (.int p1), some (.int p2), some (.ref (wad Γ 124))] [] 0
  unfold f_L_weight at hf
  refine x_aload_n C rfl rfl (dkAt dk_L_weight 0 rfl) 1 rfl ?_
  refine x_iconst C (v := (0 : Int32)) (by decide) (dkAt dk_L_weight 1 rfl) 2 rfl ?_
  refine x_aload_n C rfl rfl (dkAt dk_L_weight 2 rfl) 3 rfl ?_
  refine x_iload_n C rfl rfl (dkAt dk_L_weight 3 rfl) 4 rfl ?_
  refine x_iload_n C rfl rfl (dkAt dk_L_weight 4 rfl) 5 rfl ?_
  refine h_cVi C hf (fun r hr => c_X11_weight hN hr) mw_X11_weight ln_RL_37 mi_X11_weight (hN.rc (ci := 11) sh0 rc11) (ro_of (by decide) (by decide) (by decide) (by decide)) rfl rfl (Nat.le_of_ble_eq_true rfl) (dkAt dk_L_weight 5 rfl) 8 rfl 3 18 rfl rfl (fun v1 M2 hf => ?_) (fun e4 M5 hf => ?_)
  · refine x_i2l C (dkAt dk_L_weight 6 rfl) 9 rfl ?_
    refine x_last C (hN.sh sh124) (dkAt dk_L_weight 7 rfl) 10 rfl hf (fun M3 hf => ?_)
    refine x_goto C 21 (dkAt dk_L_weight 8 rfl) (by decide) ?_
    refine x_iconst C (v := (0 : Int32)) (by decide) (dkAt dk_L_weight 15 rfl) 22 rfl ?_
    exact x_iret C E hf (by decide) (by decide) (dkAt dk_L_weight 16 rfl)
  · refine if_then hf (fun hE hf => ?_) (fun hE hf => ?_)
    · subst hE
      refine x_catch C hC hT [] ⟨0, 10, 13, 21⟩ [⟨0, 10, 17, 13⟩] rfl (fun _ h => nomatch h) (by decide) (by decide) (by decide) clk0 ckk0 (fun q6 => ?_)
      refine x_astore C (L1 := [some (.ref (wad Γ 0)), some (.int p1), some (.int p2), some (.ref (wad Γ 124)), some (.ref q6)]) (dkAt dk_L_weight 9 rfl) 15 rfl (by decide) rfl ?_
      refine x_iconst C (v := (1 : Int32)) (by decide) (dkAt dk_L_weight 10 rfl) 16 rfl ?_
      exact x_iret C E hf (by decide) (by decide) (dkAt dk_L_weight 11 rfl)
    · refine if_then hf (fun hE hf => ?_) (fun hE hf => ?_)
      · subst hE
        refine x_catch C hC hT [⟨0, 10, 13, 21⟩] ⟨0, 10, 17, 13⟩ [] rfl (List.forall_mem_cons.mpr ⟨⟨by decide, 0, by decide, by decide, clk0⟩, (fun _ h => nomatch h)⟩) (by decide) (by decide) (by decide) clk1 ckk1 (fun q7 => ?_)
        refine x_astore C (L1 := [some (.ref (wad Γ 0)), some (.int p1), some (.int p2), some (.ref (wad Γ 124)), some (.ref q7)]) (dkAt dk_L_weight 12 rfl) 19 rfl (by decide) rfl ?_
        refine x_iconst C (v := (2 : Int32)) (by decide) (dkAt dk_L_weight 13 rfl) 20 rfl ?_
        exact x_iret C E hf (by decide) (by decide) (dkAt dk_L_weight 14 rfl)
      · exact nomatch hf
def f_L_isPermitted (Z : Nat) (M : Mem) (p1 : Int32) (p2 : Int32) : Option (Int32 × Mem) :=
  clT (f_X11_isPermitted Z M p1 p2) (fun v1 M2 => (if v1 = 0 then wrL M2 124 1 (0 : Int32) (0 : Int64) (fun M3 => some ((0 : Int32), M3)) else wrL M2 124 1 (0 : Int32) (1 : Int64) (fun M4 => some ((0 : Int32), M4)))) (fun e5 M6 => (if e5 = 0 then some ((1 : Int32), M6) else (if e5 = 1 then some ((2 : Int32), M6) else none)))
set_option maxRecDepth 100000 in
theorem c_L_isPermitted {Γ : WC} (hN : HN Γ) (hC : NC Γ) {Z : Nat} {M : Mem} {p1 : Int32} {p2 : Int32} {rM : Int32 × Mem}  (hf : f_L_isPermitted Z M p1 p2 = some rM) : CtW Γ yL_isPermitted cL_isPermitted 5 (some .int) [(0, 17, 20, 21), (0, 17, 24, 13)] (rmL 10 3 18) [.ref (wad Γ 0), .int p1, .int p2, .ref (wad Γ 124)] M (some (.int rM.1)) rM.2 := by
  refine mkW hN.1 (own := RL) rfl (by decide) (Nat.le_of_ble_eq_true rfl) (fun X C hT E => ?_)
  change G Γ X M 0 0 [some (.ref (wad Γ 0)), some (.int p1), some (.int p2), some (.ref (wad Γ 124))] [] 0
  unfold f_L_isPermitted at hf
  refine x_aload_n C rfl rfl (dkAt dk_L_isPermitted 0 rfl) 1 rfl ?_
  refine x_iconst C (v := (0 : Int32)) (by decide) (dkAt dk_L_isPermitted 1 rfl) 2 rfl ?_
  refine x_aload_n C rfl rfl (dkAt dk_L_isPermitted 2 rfl) 3 rfl ?_
  refine x_iload_n C rfl rfl (dkAt dk_L_isPermitted 3 rfl) 4 rfl ?_
  refine x_iload_n C rfl rfl (dkAt dk_L_isPermitted 4 rfl) 5 rfl ?_
  refine h_cVi C hf (fun r hr => c_X11_isPermitted hN hr) mw_X11_isPermitted ln_RL_40 mi_X11_isPermitted (hN.rc (ci := 11) sh0 rc11) (ro_of (by decide) (by decide) (by decide) (by decide)) rfl rfl (Nat.le_of_ble_eq_true rfl) (dkAt dk_L_isPermitted 5 rfl) 8 rfl 3 18 rfl rfl (fun v1 M2 hf => ?_) (fun e5 M6 hf => ?_)
  · refine x_if_eq C 15 (dkAt dk_L_isPermitted 6 rfl) 11 rfl (by decide) hf (fun hf => ?_) (fun hf => ?_)
    · refine x_lconst C (v := (0 : Int64)) (by decide) (dkAt dk_L_isPermitted 9 rfl) 16 rfl ?_
      refine x_last C (hN.sh sh124) (dkAt dk_L_isPermitted 10 rfl) 17 rfl hf (fun M3 hf => ?_)
      refine x_goto C 28 (dkAt dk_L_isPermitted 11 rfl) (by decide) ?_
      refine x_iconst C (v := (0 : Int32)) (by decide) (dkAt dk_L_isPermitted 18 rfl) 29 rfl ?_
      exact x_iret C E hf (by decide) (by decide) (dkAt dk_L_isPermitted 19 rfl)
    · refine x_lconst C (v := (1 : Int64)) (by decide) (dkAt dk_L_isPermitted 7 rfl) 12 rfl ?_
      refine x_goto C 16 (dkAt dk_L_isPermitted 8 rfl) (by decide) ?_
      refine x_last C (hN.sh sh124) (dkAt dk_L_isPermitted 10 rfl) 17 rfl hf (fun M4 hf => ?_)
      refine x_goto C 28 (dkAt dk_L_isPermitted 11 rfl) (by decide) ?_
      refine x_iconst C (v := (0 : Int32)) (by decide) (dkAt dk_L_isPermitted 18 rfl) 29 rfl ?_
      exact x_iret C E hf (by decide) (by decide) (dkAt dk_L_isPermitted 19 rfl)
  · refine if_then hf (fun hE hf => ?_) (fun hE hf => ?_)
    · subst hE
      refine x_catch C hC hT [] ⟨0, 17, 20, 21⟩ [⟨0, 17, 24, 13⟩] rfl (fun _ h => nomatch h) (by decide) (by decide) (by decide) clk0 ckk0 (fun q7 => ?_)
      refine x_astore C (L1 := [some (.ref (wad Γ 0)), some (.int p1), some (.int p2), some (.ref (wad Γ 124)), some (.ref q7)]) (dkAt dk_L_isPermitted 12 rfl) 22 rfl (by decide) rfl ?_
      refine x_iconst C (v := (1 : Int32)) (by decide) (dkAt dk_L_isPermitted 13 rfl) 23 rfl ?_
      exact x_iret C E hf (by decide) (by decide) (dkAt dk_L_isPermitted 14 rfl)
    · refine if_then hf (fun hE hf => ?_) (fun hE hf => ?_)
      · subst hE
        refine x_catch C hC hT [⟨0, 17, 20, 21⟩] ⟨0, 17, 24, 13⟩ [] rfl (List.forall_mem_cons.mpr ⟨⟨by decide, 0, by decide, by decide, clk0⟩, (fun _ h => nomatch h)⟩) (by decide) (by decide) (by decide) clk1 ckk1 (fun q8 => ?_)
        refine x_astore C (L1 := [some (.ref (wad Γ 0)), some (.int p1), some (.int p2), some (.ref (wad Γ 124)), some (.ref q8)]) (dkAt dk_L_isPermitted 15 rfl) 26 rfl (by decide) rfl ?_
        refine x_iconst C (v := (2 : Int32)) (by decide) (dkAt dk_L_isPermitted 16 rfl) 27 rfl ?_
        exact x_iret C E hf (by decide) (by decide) (dkAt dk_L_isPermitted 17 rfl)
      · exact nomatch hf
def f_L_limit (Z : Nat) (M : Mem) (p1 : Int32) : Option (Int32 × Mem) :=
  clT (f_X11_limit Z M p1) (fun v1 M2 => wrL M2 124 1 (0 : Int32) v1.toInt64 (fun M3 => some ((0 : Int32), M3))) (fun e4 M5 => (if e4 = 0 then some ((1 : Int32), M5) else (if e4 = 1 then some ((2 : Int32), M5) else none)))
set_option maxRecDepth 100000 in
theorem c_L_limit {Γ : WC} (hN : HN Γ) (hC : NC Γ) {Z : Nat} {M : Mem} {p1 : Int32} {rM : Int32 × Mem}  (hf : f_L_limit Z M p1 = some rM) : CtW Γ yL_limit cL_limit 4 (some .int) [(0, 9, 12, 21), (0, 9, 15, 13)] (rmL 9 2 12) [.ref (wad Γ 0), .int p1, .ref (wad Γ 124)] M (some (.int rM.1)) rM.2 := by
  refine mkW hN.1 (own := RL) rfl (by decide) (Nat.le_of_ble_eq_true rfl) (fun X C hT E => ?_)
  change G Γ X M 0 0 [some (.ref (wad Γ 0)), some (.int p1), some (.ref (wad Γ 124))] [] 0
  unfold f_L_limit at hf
  refine x_aload_n C rfl rfl (dkAt dk_L_limit 0 rfl) 1 rfl ?_
  refine x_iconst C (v := (0 : Int32)) (by decide) (dkAt dk_L_limit 1 rfl) 2 rfl ?_
  refine x_aload_n C rfl rfl (dkAt dk_L_limit 2 rfl) 3 rfl ?_
  refine x_iload_n C rfl rfl (dkAt dk_L_limit 3 rfl) 4 rfl ?_
  refine h_cVi C hf (fun r hr => c_X11_limit hN hr) mw_X11_limit ln_RL_44 mi_X11_limit (hN.rc (ci := 11) sh0 rc11) (ro_of (by decide) (by decide) (by decide) (by decide)) rfl rfl (Nat.le_of_ble_eq_true rfl) (dkAt dk_L_limit 4 rfl) 7 rfl 2 12 rfl rfl (fun v1 M2 hf => ?_) (fun e4 M5 hf => ?_)
  · refine x_i2l C (dkAt dk_L_limit 5 rfl) 8 rfl ?_
    refine x_last C (hN.sh sh124) (dkAt dk_L_limit 6 rfl) 9 rfl hf (fun M3 hf => ?_)
    refine x_goto C 18 (dkAt dk_L_limit 7 rfl) (by decide) ?_
    refine x_iconst C (v := (0 : Int32)) (by decide) (dkAt dk_L_limit 14 rfl) 19 rfl ?_
    exact x_iret C E hf (by decide) (by decide) (dkAt dk_L_limit 15 rfl)
  · refine if_then hf (fun hE hf => ?_) (fun hE hf => ?_)
    · subst hE
      refine x_catch C hC hT [] ⟨0, 9, 12, 21⟩ [⟨0, 9, 15, 13⟩] rfl (fun _ h => nomatch h) (by decide) (by decide) (by decide) clk0 ckk0 (fun q6 => ?_)
      refine x_astore_n C (L1 := [some (.ref (wad Γ 0)), some (.int p1), some (.ref (wad Γ 124)), some (.ref q6)]) (dkAt dk_L_limit 8 rfl) 13 rfl rfl (by decide) rfl ?_
      refine x_iconst C (v := (1 : Int32)) (by decide) (dkAt dk_L_limit 9 rfl) 14 rfl ?_
      exact x_iret C E hf (by decide) (by decide) (dkAt dk_L_limit 10 rfl)
    · refine if_then hf (fun hE hf => ?_) (fun hE hf => ?_)
      · subst hE
        refine x_catch C hC hT [⟨0, 9, 12, 21⟩] ⟨0, 9, 15, 13⟩ [] rfl (List.forall_mem_cons.mpr ⟨⟨by decide, 0, by decide, by decide, clk0⟩, (fun _ h => nomatch h)⟩) (by decide) (by decide) (by decide) clk1 ckk1 (fun q7 => ?_)
        refine x_astore_n C (L1 := [some (.ref (wad Γ 0)), some (.int p1), some (.ref (wad Γ 124)), some (.ref q7)]) (dkAt dk_L_limit 11 rfl) 16 rfl rfl (by decide) rfl ?_
        refine x_iconst C (v := (2 : Int32)) (by decide) (dkAt dk_L_limit 12 rfl) 17 rfl ?_
        exact x_iret C E hf (by decide) (by decide) (dkAt dk_L_limit 13 rfl)
      · exact nomatch hf
def f_L_reach (Z : Nat) (M : Mem) (p1 : Int32) : Option (Int32 × Mem) :=
  clT (f_X11_reach Z M p1) (fun v1 M2 => wrL M2 124 1 (0 : Int32) v1.toInt64 (fun M3 => some ((0 : Int32), M3))) (fun e4 M5 => (if e4 = 0 then some ((1 : Int32), M5) else (if e4 = 2 then some ((2 : Int32), M5) else none)))
set_option maxRecDepth 100000 in
theorem c_L_reach {Γ : WC} (hN : HN Γ) (hC : NC Γ) {Z : Nat} {M : Mem} {p1 : Int32} {rM : Int32 × Mem}  (hf : f_L_reach Z M p1 = some rM) : CtW Γ yL_reach cL_reach 4 (some .int) [(0, 9, 12, 21), (0, 9, 15, 15)] (rmL 9 2 12) [.ref (wad Γ 0), .int p1, .ref (wad Γ 124)] M (some (.int rM.1)) rM.2 := by
  refine mkW hN.1 (own := RL) rfl (by decide) (Nat.le_of_ble_eq_true rfl) (fun X C hT E => ?_)
  change G Γ X M 0 0 [some (.ref (wad Γ 0)), some (.int p1), some (.ref (wad Γ 124))] [] 0
  unfold f_L_reach at hf
  refine x_aload_n C rfl rfl (dkAt dk_L_reach 0 rfl) 1 rfl ?_
  refine x_iconst C (v := (0 : Int32)) (by decide) (dkAt dk_L_reach 1 rfl) 2 rfl ?_
  refine x_aload_n C rfl rfl (dkAt dk_L_reach 2 rfl) 3 rfl ?_
  refine x_iload_n C rfl rfl (dkAt dk_L_reach 3 rfl) 4 rfl ?_
  refine h_cVi C hf (fun r hr => c_X11_reach hN hr) mw_X11_reach ln_RL_47 mi_X11_reach (hN.rc (ci := 11) sh0 rc11) (ro_of (by decide) (by decide) (by decide) (by decide)) rfl rfl (Nat.le_of_ble_eq_true rfl) (dkAt dk_L_reach 4 rfl) 7 rfl 2 12 rfl rfl (fun v1 M2 hf => ?_) (fun e4 M5 hf => ?_)
  · refine x_i2l C (dkAt dk_L_reach 5 rfl) 8 rfl ?_
    refine x_last C (hN.sh sh124) (dkAt dk_L_reach 6 rfl) 9 rfl hf (fun M3 hf => ?_)
    refine x_goto C 18 (dkAt dk_L_reach 7 rfl) (by decide) ?_
    refine x_iconst C (v := (0 : Int32)) (by decide) (dkAt dk_L_reach 14 rfl) 19 rfl ?_
    exact x_iret C E hf (by decide) (by decide) (dkAt dk_L_reach 15 rfl)
  · refine if_then hf (fun hE hf => ?_) (fun hE hf => ?_)
    · subst hE
      refine x_catch C hC hT [] ⟨0, 9, 12, 21⟩ [⟨0, 9, 15, 15⟩] rfl (fun _ h => nomatch h) (by decide) (by decide) (by decide) clk0 ckk0 (fun q6 => ?_)
      refine x_astore_n C (L1 := [some (.ref (wad Γ 0)), some (.int p1), some (.ref (wad Γ 124)), some (.ref q6)]) (dkAt dk_L_reach 8 rfl) 13 rfl rfl (by decide) rfl ?_
      refine x_iconst C (v := (1 : Int32)) (by decide) (dkAt dk_L_reach 9 rfl) 14 rfl ?_
      exact x_iret C E hf (by decide) (by decide) (dkAt dk_L_reach 10 rfl)
    · refine if_then hf (fun hE hf => ?_) (fun hE hf => ?_)
      · subst hE
        refine x_catch C hC hT [⟨0, 9, 12, 21⟩] ⟨0, 9, 15, 15⟩ [] rfl (List.forall_mem_cons.mpr ⟨⟨by decide, 0, by decide, by decide, clk0⟩, (fun _ h => nomatch h)⟩) (by decide) (by decide) (by decide) clk2 ckk2 (fun q7 => ?_)
        refine x_astore_n C (L1 := [some (.ref (wad Γ 0)), some (.int p1), some (.ref (wad Γ 124)), some (.ref q7)]) (dkAt dk_L_reach 11 rfl) 16 rfl rfl (by decide) rfl ?_
        refine x_iconst C (v := (2 : Int32)) (by decide) (dkAt dk_L_reach 12 rfl) 17 rfl ?_
        exact x_iret C E hf (by decide) (by decide) (dkAt dk_L_reach 13 rfl)
      · exact nomatch hf
def f_L_isClosed (Z : Nat) (M : Mem) (p1 : Int32) : Option (Int32 × Mem) :=
  clT (f_X11_isClosed Z M p1) (fun v1 M2 => (if v1 = 0 then wrL M2 124 1 (0 : Int32) (0 : Int64) (fun M3 => some ((0 : Int32), M3)) else wrL M2 124 1 (0 : Int32) (1 : Int64) (fun M4 => some ((0 : Int32), M4)))) (fun e5 M6 => (if e5 = 0 then some ((1 : Int32), M6) else (if e5 = 2 then some ((2 : Int32), M6) else none)))
set_option maxRecDepth 100000 in
theorem c_L_isClosed {Γ : WC} (hN : HN Γ) (hC : NC Γ) {Z : Nat} {M : Mem} {p1 : Int32} {rM : Int32 × Mem}  (hf : f_L_isClosed Z M p1 = some rM) : CtW Γ yL_isClosed cL_isClosed 4 (some .int) [(0, 16, 19, 21), (0, 16, 22, 15)] (rmL 8 2 12) [.ref (wad Γ 0), .int p1, .ref (wad Γ 124)] M (some (.int rM.1)) rM.2 := by
  refine mkW hN.1 (own := RL) rfl (by decide) (Nat.le_of_ble_eq_true rfl) (fun X C hT E => ?_)
  change G Γ X M 0 0 [some (.ref (wad Γ 0)), some (.int p1), some (.ref (wad Γ 124))] [] 0
  unfold f_L_isClosed at hf
  refine x_aload_n C rfl rfl (dkAt dk_L_isClosed 0 rfl) 1 rfl ?_
  refine x_iconst C (v := (0 : Int32)) (by decide) (dkAt dk_L_isClosed 1 rfl) 2 rfl ?_
  refine x_aload_n C rfl rfl (dkAt dk_L_isClosed 2 rfl) 3 rfl ?_
  refine x_iload_n C rfl rfl (dkAt dk_L_isClosed 3 rfl) 4 rfl ?_
  refine h_cVi C hf (fun r hr => c_X11_isClosed hN hr) mw_X11_isClosed ln_RL_50 mi_X11_isClosed (hN.rc (ci := 11) sh0 rc11) (ro_of (by decide) (by decide) (by decide) (by decide)) rfl rfl (Nat.le_of_ble_eq_true rfl) (dkAt dk_L_isClosed 4 rfl) 7 rfl 2 12 rfl rfl (fun v1 M2 hf => ?_) (fun e5 M6 hf => ?_)
  · refine x_if_eq C 14 (dkAt dk_L_isClosed 5 rfl) 10 rfl (by decide) hf (fun hf => ?_) (fun hf => ?_)
    · refine x_lconst C (v := (0 : Int64)) (by decide) (dkAt dk_L_isClosed 8 rfl) 15 rfl ?_
      refine x_last C (hN.sh sh124) (dkAt dk_L_isClosed 9 rfl) 16 rfl hf (fun M3 hf => ?_)
      refine x_goto C 25 (dkAt dk_L_isClosed 10 rfl) (by decide) ?_
      refine x_iconst C (v := (0 : Int32)) (by decide) (dkAt dk_L_isClosed 17 rfl) 26 rfl ?_
      exact x_iret C E hf (by decide) (by decide) (dkAt dk_L_isClosed 18 rfl)
    · refine x_lconst C (v := (1 : Int64)) (by decide) (dkAt dk_L_isClosed 6 rfl) 11 rfl ?_
      refine x_goto C 15 (dkAt dk_L_isClosed 7 rfl) (by decide) ?_
      refine x_last C (hN.sh sh124) (dkAt dk_L_isClosed 9 rfl) 16 rfl hf (fun M4 hf => ?_)
      refine x_goto C 25 (dkAt dk_L_isClosed 10 rfl) (by decide) ?_
      refine x_iconst C (v := (0 : Int32)) (by decide) (dkAt dk_L_isClosed 17 rfl) 26 rfl ?_
      exact x_iret C E hf (by decide) (by decide) (dkAt dk_L_isClosed 18 rfl)
  · refine if_then hf (fun hE hf => ?_) (fun hE hf => ?_)
    · subst hE
      refine x_catch C hC hT [] ⟨0, 16, 19, 21⟩ [⟨0, 16, 22, 15⟩] rfl (fun _ h => nomatch h) (by decide) (by decide) (by decide) clk0 ckk0 (fun q7 => ?_)
      refine x_astore_n C (L1 := [some (.ref (wad Γ 0)), some (.int p1), some (.ref (wad Γ 124)), some (.ref q7)]) (dkAt dk_L_isClosed 11 rfl) 20 rfl rfl (by decide) rfl ?_
      refine x_iconst C (v := (1 : Int32)) (by decide) (dkAt dk_L_isClosed 12 rfl) 21 rfl ?_
      exact x_iret C E hf (by decide) (by decide) (dkAt dk_L_isClosed 13 rfl)
    · refine if_then hf (fun hE hf => ?_) (fun hE hf => ?_)
      · subst hE
        refine x_catch C hC hT [⟨0, 16, 19, 21⟩] ⟨0, 16, 22, 15⟩ [] rfl (List.forall_mem_cons.mpr ⟨⟨by decide, 0, by decide, by decide, clk0⟩, (fun _ h => nomatch h)⟩) (by decide) (by decide) (by decide) clk2 ckk2 (fun q8 => ?_)
        refine x_astore_n C (L1 := [some (.ref (wad Γ 0)), some (.int p1), some (.ref (wad Γ 124)), some (.ref q8)]) (dkAt dk_L_isClosed 14 rfl) 23 rfl rfl (by decide) rfl ?_
        refine x_iconst C (v := (2 : Int32)) (by decide) (dkAt dk_L_isClosed 15 rfl) 24 rfl ?_
        exact x_iret C E hf (by decide) (by decide) (dkAt dk_L_isClosed 16 rfl)
      · exact nomatch hf
def f_L_flow (Z : Nat) (M : Mem) (p1 : Int32) (p2 : Int32) : Option (Int32 × Mem) :=
  clT (f_X11_flow Z M p1 p2) (fun v1 M2 => wrL M2 124 1 (0 : Int32) v1 (fun M3 => some ((0 : Int32), M3))) (fun e4 M5 => (if e4 = 0 then some ((1 : Int32), M5) else (if e4 = 1 then some ((2 : Int32), M5) else (if e4 = 2 then some ((3 : Int32), M5) else none))))
set_option maxRecDepth 100000 in
theorem c_L_flow {Γ : WC} (hN : HN Γ) (hC : NC Γ) {Z : Nat} {M : Mem} {p1 : Int32} {p2 : Int32} {rM : Int32 × Mem}  (hf : f_L_flow Z M p1 p2 = some rM) : CtW Γ yL_flow cL_flow 5 (some .int) [(0, 9, 12, 21), (0, 9, 16, 13), (0, 9, 20, 15)] (rmL 9 4 24) [.ref (wad Γ 0), .int p1, .int p2, .ref (wad Γ 124)] M (some (.int rM.1)) rM.2 := by
  refine mkW hN.1 (own := RL) rfl (by decide) (Nat.le_of_ble_eq_true rfl) (fun X C hT E => ?_)
  change G Γ X M 0 0 [some (.ref (wad Γ 0)), some (.int p1), some (.int p2), some (.ref (wad Γ 124))] [] 0
  unfold f_L_flow at hf
  refine x_aload_n C rfl rfl (dkAt dk_L_flow 0 rfl) 1 rfl ?_
  refine x_iconst C (v := (0 : Int32)) (by decide) (dkAt dk_L_flow 1 rfl) 2 rfl ?_
  refine x_aload_n C rfl rfl (dkAt dk_L_flow 2 rfl) 3 rfl ?_
  refine x_iload_n C rfl rfl (dkAt dk_L_flow 3 rfl) 4 rfl ?_
  refine x_iload_n C rfl rfl (dkAt dk_L_flow 4 rfl) 5 rfl ?_
  refine h_cVl C hf (fun r hr => c_X11_flow hN hr) mw_X11_flow ln_RL_54 mi_X11_flow (hN.rc (ci := 11) sh0 rc11) (ro_of (by decide) (by decide) (by decide) (by decide)) rfl rfl (Nat.le_of_ble_eq_true rfl) (dkAt dk_L_flow 5 rfl) 8 rfl 4 24 rfl rfl (fun v1 M2 hf => ?_) (fun e4 M5 hf => ?_)
  · refine x_last C (hN.sh sh124) (dkAt dk_L_flow 6 rfl) 9 rfl hf (fun M3 hf => ?_)
    refine x_goto C 24 (dkAt dk_L_flow 7 rfl) (by decide) ?_
    refine x_iconst C (v := (0 : Int32)) (by decide) (dkAt dk_L_flow 17 rfl) 25 rfl ?_
    exact x_iret C E hf (by decide) (by decide) (dkAt dk_L_flow 18 rfl)
  · refine if_then hf (fun hE hf => ?_) (fun hE hf => ?_)
    · subst hE
      refine x_catch C hC hT [] ⟨0, 9, 12, 21⟩ [⟨0, 9, 16, 13⟩, ⟨0, 9, 20, 15⟩] rfl (fun _ h => nomatch h) (by decide) (by decide) (by decide) clk0 ckk0 (fun q6 => ?_)
      refine x_astore C (L1 := [some (.ref (wad Γ 0)), some (.int p1), some (.int p2), some (.ref (wad Γ 124)), some (.ref q6)]) (dkAt dk_L_flow 8 rfl) 14 rfl (by decide) rfl ?_
      refine x_iconst C (v := (1 : Int32)) (by decide) (dkAt dk_L_flow 9 rfl) 15 rfl ?_
      exact x_iret C E hf (by decide) (by decide) (dkAt dk_L_flow 10 rfl)
    · refine if_then hf (fun hE hf => ?_) (fun hE hf => ?_)
      · subst hE
        refine x_catch C hC hT [⟨0, 9, 12, 21⟩] ⟨0, 9, 16, 13⟩ [⟨0, 9, 20, 15⟩] rfl (List.forall_mem_cons.mpr ⟨⟨by decide, 0, by decide, by decide, clk0⟩, (fun _ h => nomatch h)⟩) (by decide) (by decide) (by decide) clk1 ckk1 (fun q7 => ?_)
        refine x_astore C (L1 := [some (.ref (wad Γ 0)), some (.int p1), some (.int p2), some (.ref (wad Γ 124)), some (.ref q7)]) (dkAt dk_L_flow 11 rfl) 18 rfl (by decide) rfl ?_
        refine x_iconst C (v := (2 : Int32)) (by decide) (dkAt dk_L_flow 12 rfl) 19 rfl ?_
        exact x_iret C E hf (by decide) (by decide) (dkAt dk_L_flow 13 rfl)
      · refine if_then hf (fun hE hf => ?_) (fun hE hf => ?_)
        · subst hE
          refine x_catch C hC hT [⟨0, 9, 12, 21⟩, ⟨0, 9, 16, 13⟩] ⟨0, 9, 20, 15⟩ [] rfl (List.forall_mem_cons.mpr ⟨⟨by decide, 0, by decide, by decide, clk0⟩, (List.forall_mem_cons.mpr ⟨⟨by decide, 1, by decide, by decide, clk1⟩, (fun _ h => nomatch h)⟩)⟩) (by decide) (by decide) (by decide) clk2 ckk2 (fun q8 => ?_)
          refine x_astore C (L1 := [some (.ref (wad Γ 0)), some (.int p1), some (.int p2), some (.ref (wad Γ 124)), some (.ref q8)]) (dkAt dk_L_flow 14 rfl) 22 rfl (by decide) rfl ?_
          refine x_iconst C (v := (3 : Int32)) (by decide) (dkAt dk_L_flow 15 rfl) 23 rfl ?_
          exact x_iret C E hf (by decide) (by decide) (dkAt dk_L_flow 16 rfl)
        · exact nomatch hf
def f_L_use (Z : Nat) (M : Mem) (p1 : Int32) (p2 : Int32) (p3 : Int32) : Option (Int32 × Mem) :=
  clT (f_X11_use Z M p1 p2 p3) (fun v1 M2 => wrL M2 124 1 (0 : Int32) v1 (fun M3 => some ((0 : Int32), M3))) (fun e4 M5 => (if e4 = 0 then some ((1 : Int32), M5) else (if e4 = 1 then some ((2 : Int32), M5) else (if e4 = 2 then some ((3 : Int32), M5) else none))))
set_option maxRecDepth 100000 in
theorem c_L_use {Γ : WC} (hN : HN Γ) (hC : NC Γ) {Z : Nat} {M : Mem} {p1 : Int32} {p2 : Int32} {p3 : Int32} {rM : Int32 × Mem}  (hf : f_L_use Z M p1 p2 p3 = some rM) : CtW Γ yL_use cL_use 6 (some .int) [(0, 11, 14, 21), (0, 11, 18, 13), (0, 11, 22, 15)] (rmL 10 4 24) [.ref (wad Γ 0), .int p1, .int p2, .int p3, .ref (wad Γ 124)] M (some (.int rM.1)) rM.2 := by
  refine mkW hN.1 (own := RL) rfl (by decide) (Nat.le_of_ble_eq_true rfl) (fun X C hT E => ?_)
  change G Γ X M 0 0 [some (.ref (wad Γ 0)), some (.int p1), some (.int p2), some (.int p3), some (.ref (wad Γ 124))] [] 0
  unfold f_L_use at hf
  refine x_aload C rfl (dkAt dk_L_use 0 rfl) 2 rfl ?_
  refine x_iconst C (v := (0 : Int32)) (by decide) (dkAt dk_L_use 1 rfl) 3 rfl ?_
  refine x_aload_n C rfl rfl (dkAt dk_L_use 2 rfl) 4 rfl ?_
  refine x_iload_n C rfl rfl (dkAt dk_L_use 3 rfl) 5 rfl ?_
  refine x_iload_n C rfl rfl (dkAt dk_L_use 4 rfl) 6 rfl ?_
  refine x_iload_n C rfl rfl (dkAt dk_L_use 5 rfl) 7 rfl ?_
  refine h_cVl C hf (fun r hr => c_X11_use hN hr) mw_X11_use ln_RL_58 mi_X11_use (hN.rc (ci := 11) sh0 rc11) (ro_of (by decide) (by decide) (by decide) (by decide)) rfl rfl (Nat.le_of_ble_eq_true rfl) (dkAt dk_L_use 6 rfl) 10 rfl 4 24 rfl rfl (fun v1 M2 hf => ?_) (fun e4 M5 hf => ?_)
  · refine x_last C (hN.sh sh124) (dkAt dk_L_use 7 rfl) 11 rfl hf (fun M3 hf => ?_)
    refine x_goto C 26 (dkAt dk_L_use 8 rfl) (by decide) ?_
    refine x_iconst C (v := (0 : Int32)) (by decide) (dkAt dk_L_use 18 rfl) 27 rfl ?_
    exact x_iret C E hf (by decide) (by decide) (dkAt dk_L_use 19 rfl)
  · refine if_then hf (fun hE hf => ?_) (fun hE hf => ?_)
    · subst hE
      refine x_catch C hC hT [] ⟨0, 11, 14, 21⟩ [⟨0, 11, 18, 13⟩, ⟨0, 11, 22, 15⟩] rfl (fun _ h => nomatch h) (by decide) (by decide) (by decide) clk0 ckk0 (fun q6 => ?_)
      refine x_astore C (L1 := [some (.ref (wad Γ 0)), some (.int p1), some (.int p2), some (.int p3), some (.ref (wad Γ 124)), some (.ref q6)]) (dkAt dk_L_use 9 rfl) 16 rfl (by decide) rfl ?_
      refine x_iconst C (v := (1 : Int32)) (by decide) (dkAt dk_L_use 10 rfl) 17 rfl ?_
      exact x_iret C E hf (by decide) (by decide) (dkAt dk_L_use 11 rfl)
    · refine if_then hf (fun hE hf => ?_) (fun hE hf => ?_)
      · subst hE
        refine x_catch C hC hT [⟨0, 11, 14, 21⟩] ⟨0, 11, 18, 13⟩ [⟨0, 11, 22, 15⟩] rfl (List.forall_mem_cons.mpr ⟨⟨by decide, 0, by decide, by decide, clk0⟩, (fun _ h => nomatch h)⟩) (by decide) (by decide) (by decide) clk1 ckk1 (fun q7 => ?_)
        refine x_astore C (L1 := [some (.ref (wad Γ 0)), some (.int p1), some (.int p2), some (.int p3), some (.ref (wad Γ 124)), some (.ref q7)]) (dkAt dk_L_use 12 rfl) 20 rfl (by decide) rfl ?_
        refine x_iconst C (v := (2 : Int32)) (by decide) (dkAt dk_L_use 13 rfl) 21 rfl ?_
        exact x_iret C E hf (by decide) (by decide) (dkAt dk_L_use 14 rfl)
      · refine if_then hf (fun hE hf => ?_) (fun hE hf => ?_)
        · subst hE
          refine x_catch C hC hT [⟨0, 11, 14, 21⟩, ⟨0, 11, 18, 13⟩] ⟨0, 11, 22, 15⟩ [] rfl (List.forall_mem_cons.mpr ⟨⟨by decide, 0, by decide, by decide, clk0⟩, (List.forall_mem_cons.mpr ⟨⟨by decide, 1, by decide, by decide, clk1⟩, (fun _ h => nomatch h)⟩)⟩) (by decide) (by decide) (by decide) clk2 ckk2 (fun q8 => ?_)
          refine x_astore C (L1 := [some (.ref (wad Γ 0)), some (.int p1), some (.int p2), some (.int p3), some (.ref (wad Γ 124)), some (.ref q8)]) (dkAt dk_L_use 15 rfl) 24 rfl (by decide) rfl ?_
          refine x_iconst C (v := (3 : Int32)) (by decide) (dkAt dk_L_use 16 rfl) 25 rfl ?_
          exact x_iret C E hf (by decide) (by decide) (dkAt dk_L_use 17 rfl)
        · exact nomatch hf
def f_L_visits (Z : Nat) (M : Mem) (p1 : Int32) : Option (Int32 × Mem) :=
  clT (f_X11_visits Z M p1) (fun v1 M2 => wrL M2 124 1 (0 : Int32) v1 (fun M3 => some ((0 : Int32), M3))) (fun e4 M5 => (if e4 = 0 then some ((1 : Int32), M5) else (if e4 = 1 then some ((2 : Int32), M5) else none)))
set_option maxRecDepth 100000 in
theorem c_L_visits {Γ : WC} (hN : HN Γ) (hC : NC Γ) {Z : Nat} {M : Mem} {p1 : Int32} {rM : Int32 × Mem}  (hf : f_L_visits Z M p1 = some rM) : CtW Γ yL_visits cL_visits 4 (some .int) [(0, 8, 11, 21), (0, 8, 14, 13)] (rmL 9 2 12) [.ref (wad Γ 0), .int p1, .ref (wad Γ 124)] M (some (.int rM.1)) rM.2 := by
  refine mkW hN.1 (own := RL) rfl (by decide) (Nat.le_of_ble_eq_true rfl) (fun X C hT E => ?_)
  change G Γ X M 0 0 [some (.ref (wad Γ 0)), some (.int p1), some (.ref (wad Γ 124))] [] 0
  unfold f_L_visits at hf
  refine x_aload_n C rfl rfl (dkAt dk_L_visits 0 rfl) 1 rfl ?_
  refine x_iconst C (v := (0 : Int32)) (by decide) (dkAt dk_L_visits 1 rfl) 2 rfl ?_
  refine x_aload_n C rfl rfl (dkAt dk_L_visits 2 rfl) 3 rfl ?_
  refine x_iload_n C rfl rfl (dkAt dk_L_visits 3 rfl) 4 rfl ?_
  refine h_cVl C hf (fun r hr => c_X11_visits hN hr) mw_X11_visits ln_RL_62 mi_X11_visits (hN.rc (ci := 11) sh0 rc11) (ro_of (by decide) (by decide) (by decide) (by decide)) rfl rfl (Nat.le_of_ble_eq_true rfl) (dkAt dk_L_visits 4 rfl) 7 rfl 2 12 rfl rfl (fun v1 M2 hf => ?_) (fun e4 M5 hf => ?_)
  · refine x_last C (hN.sh sh124) (dkAt dk_L_visits 5 rfl) 8 rfl hf (fun M3 hf => ?_)
    refine x_goto C 17 (dkAt dk_L_visits 6 rfl) (by decide) ?_
    refine x_iconst C (v := (0 : Int32)) (by decide) (dkAt dk_L_visits 13 rfl) 18 rfl ?_
    exact x_iret C E hf (by decide) (by decide) (dkAt dk_L_visits 14 rfl)
  · refine if_then hf (fun hE hf => ?_) (fun hE hf => ?_)
    · subst hE
      refine x_catch C hC hT [] ⟨0, 8, 11, 21⟩ [⟨0, 8, 14, 13⟩] rfl (fun _ h => nomatch h) (by decide) (by decide) (by decide) clk0 ckk0 (fun q6 => ?_)
      refine x_astore_n C (L1 := [some (.ref (wad Γ 0)), some (.int p1), some (.ref (wad Γ 124)), some (.ref q6)]) (dkAt dk_L_visits 7 rfl) 12 rfl rfl (by decide) rfl ?_
      refine x_iconst C (v := (1 : Int32)) (by decide) (dkAt dk_L_visits 8 rfl) 13 rfl ?_
      exact x_iret C E hf (by decide) (by decide) (dkAt dk_L_visits 9 rfl)
    · refine if_then hf (fun hE hf => ?_) (fun hE hf => ?_)
      · subst hE
        refine x_catch C hC hT [⟨0, 8, 11, 21⟩] ⟨0, 8, 14, 13⟩ [] rfl (List.forall_mem_cons.mpr ⟨⟨by decide, 0, by decide, by decide, clk0⟩, (fun _ h => nomatch h)⟩) (by decide) (by decide) (by decide) clk1 ckk1 (fun q7 => ?_)
        refine x_astore_n C (L1 := [some (.ref (wad Γ 0)), some (.int p1), some (.ref (wad Γ 124)), some (.ref q7)]) (dkAt dk_L_visits 10 rfl) 15 rfl rfl (by decide) rfl ?_
        refine x_iconst C (v := (2 : Int32)) (by decide) (dkAt dk_L_visits 11 rfl) 16 rfl ?_
        exact x_iret C E hf (by decide) (by decide) (dkAt dk_L_visits 12 rfl)
      · exact nomatch hf
def f_L_hit (Z : Nat) (M : Mem) (p1 : Int32) : Option (Int32 × Mem) :=
  clT (f_X11_hit Z M p1) (fun v1 M2 => wrL M2 124 1 (0 : Int32) v1 (fun M3 => some ((0 : Int32), M3))) (fun e4 M5 => (if e4 = 0 then some ((1 : Int32), M5) else (if e4 = 1 then some ((2 : Int32), M5) else none)))
set_option maxRecDepth 100000 in
theorem c_L_hit {Γ : WC} (hN : HN Γ) (hC : NC Γ) {Z : Nat} {M : Mem} {p1 : Int32} {rM : Int32 × Mem}  (hf : f_L_hit Z M p1 = some rM) : CtW Γ yL_hit cL_hit 4 (some .int) [(0, 8, 11, 21), (0, 8, 14, 13)] (rmL 9 2 12) [.ref (wad Γ 0), .int p1, .ref (wad Γ 124)] M (some (.int rM.1)) rM.2 := by
  refine mkW hN.1 (own := RL) rfl (by decide) (Nat.le_of_ble_eq_true rfl) (fun X C hT E => ?_)
  change G Γ X M 0 0 [some (.ref (wad Γ 0)), some (.int p1), some (.ref (wad Γ 124))] [] 0
  unfold f_L_hit at hf
  refine x_aload_n C rfl rfl (dkAt dk_L_hit 0 rfl) 1 rfl ?_
  refine x_iconst C (v := (0 : Int32)) (by decide) (dkAt dk_L_hit 1 rfl) 2 rfl ?_
  refine x_aload_n C rfl rfl (dkAt dk_L_hit 2 rfl) 3 rfl ?_
  refine x_iload_n C rfl rfl (dkAt dk_L_hit 3 rfl) 4 rfl ?_
  refine h_cVl C hf (fun r hr => c_X11_hit hN hr) mw_X11_hit ln_RL_66 mi_X11_hit (hN.rc (ci := 11) sh0 rc11) (ro_of (by decide) (by decide) (by decide) (by decide)) rfl rfl (Nat.le_of_ble_eq_true rfl) (dkAt dk_L_hit 4 rfl) 7 rfl 2 12 rfl rfl (fun v1 M2 hf => ?_) (fun e4 M5 hf => ?_)
  · refine x_last C (hN.sh sh124) (dkAt dk_L_hit 5 rfl) 8 rfl hf (fun M3 hf => ?_)
    refine x_goto C 17 (dkAt dk_L_hit 6 rfl) (by decide) ?_
    refine x_iconst C (v := (0 : Int32)) (by decide) (dkAt dk_L_hit 13 rfl) 18 rfl ?_
    exact x_iret C E hf (by decide) (by decide) (dkAt dk_L_hit 14 rfl)
  · refine if_then hf (fun hE hf => ?_) (fun hE hf => ?_)
    · subst hE
      refine x_catch C hC hT [] ⟨0, 8, 11, 21⟩ [⟨0, 8, 14, 13⟩] rfl (fun _ h => nomatch h) (by decide) (by decide) (by decide) clk0 ckk0 (fun q6 => ?_)
      refine x_astore_n C (L1 := [some (.ref (wad Γ 0)), some (.int p1), some (.ref (wad Γ 124)), some (.ref q6)]) (dkAt dk_L_hit 7 rfl) 12 rfl rfl (by decide) rfl ?_
      refine x_iconst C (v := (1 : Int32)) (by decide) (dkAt dk_L_hit 8 rfl) 13 rfl ?_
      exact x_iret C E hf (by decide) (by decide) (dkAt dk_L_hit 9 rfl)
    · refine if_then hf (fun hE hf => ?_) (fun hE hf => ?_)
      · subst hE
        refine x_catch C hC hT [⟨0, 8, 11, 21⟩] ⟨0, 8, 14, 13⟩ [] rfl (List.forall_mem_cons.mpr ⟨⟨by decide, 0, by decide, by decide, clk0⟩, (fun _ h => nomatch h)⟩) (by decide) (by decide) (by decide) clk1 ckk1 (fun q7 => ?_)
        refine x_astore_n C (L1 := [some (.ref (wad Γ 0)), some (.int p1), some (.ref (wad Γ 124)), some (.ref q7)]) (dkAt dk_L_hit 10 rfl) 15 rfl rfl (by decide) rfl ?_
        refine x_iconst C (v := (2 : Int32)) (by decide) (dkAt dk_L_hit 11 rfl) 16 rfl ?_
        exact x_iret C E hf (by decide) (by decide) (dkAt dk_L_hit 12 rfl)
      · exact nomatch hf
def f_L_unit (Z : Nat) (M : Mem)  : Option (Int32 × Mem) :=
  clT (f_X11_unit Z M) (fun v1 M2 => wrL M2 124 1 (0 : Int32) v1 (fun M3 => some ((0 : Int32), M3))) (fun e4 M5 => (if e4 = 0 then some ((1 : Int32), M5) else none))
set_option maxRecDepth 100000 in
theorem c_L_unit {Γ : WC} (hN : HN Γ) (hC : NC Γ) {Z : Nat} {M : Mem}  {rM : Int32 × Mem}  (hf : f_L_unit Z M  = some rM) : CtW Γ yL_unit cL_unit 3 (some .int) [(0, 7, 10, 21)] (rmL 8 1 6) [.ref (wad Γ 0), .ref (wad Γ 124)] M (some (.int rM.1)) rM.2 := by
  refine mkW hN.1 (own := RL) rfl (by decide) (Nat.le_of_ble_eq_true rfl) (fun X C hT E => ?_)
  change G Γ X M 0 0 [some (.ref (wad Γ 0)), some (.ref (wad Γ 124))] [] 0
  unfold f_L_unit at hf
  refine x_aload_n C rfl rfl (dkAt dk_L_unit 0 rfl) 1 rfl ?_
  refine x_iconst C (v := (0 : Int32)) (by decide) (dkAt dk_L_unit 1 rfl) 2 rfl ?_
  refine x_aload_n C rfl rfl (dkAt dk_L_unit 2 rfl) 3 rfl ?_
  refine h_cVl C hf (fun r hr => c_X11_unit hN hr) mw_X11_unit ln_RL_69 mi_X11_unit (hN.rc (ci := 11) sh0 rc11) (ro_of (by decide) (by decide) (by decide) (by decide)) rfl rfl (Nat.le_of_ble_eq_true rfl) (dkAt dk_L_unit 3 rfl) 6 rfl 1 6 rfl rfl (fun v1 M2 hf => ?_) (fun e4 M5 hf => ?_)
  · refine x_last C (hN.sh sh124) (dkAt dk_L_unit 4 rfl) 7 rfl hf (fun M3 hf => ?_)
    refine x_goto C 13 (dkAt dk_L_unit 5 rfl) (by decide) ?_
    refine x_iconst C (v := (0 : Int32)) (by decide) (dkAt dk_L_unit 9 rfl) 14 rfl ?_
    exact x_iret C E hf (by decide) (by decide) (dkAt dk_L_unit 10 rfl)
  · refine if_then hf (fun hE hf => ?_) (fun hE hf => ?_)
    · subst hE
      refine x_catch C hC hT [] ⟨0, 7, 10, 21⟩ [] rfl (fun _ h => nomatch h) (by decide) (by decide) (by decide) clk0 ckk0 (fun q6 => ?_)
      refine x_astore_n C (L1 := [some (.ref (wad Γ 0)), some (.ref (wad Γ 124)), some (.ref q6)]) (dkAt dk_L_unit 6 rfl) 11 rfl rfl (by decide) rfl ?_
      refine x_iconst C (v := (1 : Int32)) (by decide) (dkAt dk_L_unit 7 rfl) 12 rfl ?_
      exact x_iret C E hf (by decide) (by decide) (dkAt dk_L_unit 8 rfl)
    · exact nomatch hf
def f_L_gainOfRun (Z : Nat) (M : Mem)  : Option (Int32 × Mem) :=
  clT (f_X11_gainOfRun Z M) (fun v1 M2 => wrL M2 124 1 (0 : Int32) v1 (fun M3 => some ((0 : Int32), M3))) (fun e4 M5 => (if e4 = 0 then some ((1 : Int32), M5) else none))
set_option maxRecDepth 100000 in
theorem c_L_gainOfRun {Γ : WC} (hN : HN Γ) (hC : NC Γ) {Z : Nat} {M : Mem}  {rM : Int32 × Mem}  (hf : f_L_gainOfRun Z M  = some rM) : CtW Γ yL_gainOfRun cL_gainOfRun 3 (some .int) [(0, 7, 10, 21)] (rmL 8 1 6) [.ref (wad Γ 0), .ref (wad Γ 124)] M (some (.int rM.1)) rM.2 := by
  refine mkW hN.1 (own := RL) rfl (by decide) (Nat.le_of_ble_eq_true rfl) (fun X C hT E => ?_)
  change G Γ X M 0 0 [some (.ref (wad Γ 0)), some (.ref (wad Γ 124))] [] 0
  unfold f_L_gainOfRun at hf
  refine x_aload_n C rfl rfl (dkAt dk_L_gainOfRun 0 rfl) 1 rfl ?_
  refine x_iconst C (v := (0 : Int32)) (by decide) (dkAt dk_L_gainOfRun 1 rfl) 2 rfl ?_
  refine x_aload_n C rfl rfl (dkAt dk_L_gainOfRun 2 rfl) 3 rfl ?_
  refine h_cVl C hf (fun r hr => c_X11_gainOfRun hN hr) mw_X11_gainOfRun ln_RL_73 mi_X11_gainOfRun (hN.rc (ci := 11) sh0 rc11) (ro_of (by decide) (by decide) (by decide) (by decide)) rfl rfl (Nat.le_of_ble_eq_true rfl) (dkAt dk_L_gainOfRun 3 rfl) 6 rfl 1 6 rfl rfl (fun v1 M2 hf => ?_) (fun e4 M5 hf => ?_)
  · refine x_last C (hN.sh sh124) (dkAt dk_L_gainOfRun 4 rfl) 7 rfl hf (fun M3 hf => ?_)
    refine x_goto C 13 (dkAt dk_L_gainOfRun 5 rfl) (by decide) ?_
    refine x_iconst C (v := (0 : Int32)) (by decide) (dkAt dk_L_gainOfRun 9 rfl) 14 rfl ?_
    exact x_iret C E hf (by decide) (by decide) (dkAt dk_L_gainOfRun 10 rfl)
  · refine if_then hf (fun hE hf => ?_) (fun hE hf => ?_)
    · subst hE
      refine x_catch C hC hT [] ⟨0, 7, 10, 21⟩ [] rfl (fun _ h => nomatch h) (by decide) (by decide) (by decide) clk0 ckk0 (fun q6 => ?_)
      refine x_astore_n C (L1 := [some (.ref (wad Γ 0)), some (.ref (wad Γ 124)), some (.ref q6)]) (dkAt dk_L_gainOfRun 6 rfl) 11 rfl rfl (by decide) rfl ?_
      refine x_iconst C (v := (1 : Int32)) (by decide) (dkAt dk_L_gainOfRun 7 rfl) 12 rfl ?_
      exact x_iret C E hf (by decide) (by decide) (dkAt dk_L_gainOfRun 8 rfl)
    · exact nomatch hf
def f_L_usedOfRun (Z : Nat) (M : Mem) (p1 : Int32) : Option (Int32 × Mem) :=
  clT (f_X11_usedOfRun Z M p1) (fun v1 M2 => wrL M2 124 1 (0 : Int32) v1 (fun M3 => some ((0 : Int32), M3))) (fun e4 M5 => (if e4 = 0 then some ((1 : Int32), M5) else (if e4 = 1 then some ((2 : Int32), M5) else none)))
set_option maxRecDepth 100000 in
theorem c_L_usedOfRun {Γ : WC} (hN : HN Γ) (hC : NC Γ) {Z : Nat} {M : Mem} {p1 : Int32} {rM : Int32 × Mem}  (hf : f_L_usedOfRun Z M p1 = some rM) : CtW Γ yL_usedOfRun cL_usedOfRun 4 (some .int) [(0, 8, 11, 21), (0, 8, 14, 13)] (rmL 9 2 12) [.ref (wad Γ 0), .int p1, .ref (wad Γ 124)] M (some (.int rM.1)) rM.2 := by
  refine mkW hN.1 (own := RL) rfl (by decide) (Nat.le_of_ble_eq_true rfl) (fun X C hT E => ?_)
  change G Γ X M 0 0 [some (.ref (wad Γ 0)), some (.int p1), some (.ref (wad Γ 124))] [] 0
  unfold f_L_usedOfRun at hf
  refine x_aload_n C rfl rfl (dkAt dk_L_usedOfRun 0 rfl) 1 rfl ?_
  refine x_iconst C (v := (0 : Int32)) (by decide) (dkAt dk_L_usedOfRun 1 rfl) 2 rfl ?_
  refine x_aload_n C rfl rfl (dkAt dk_L_usedOfRun 2 rfl) 3 rfl ?_
  refine x_iload_n C rfl rfl (dkAt dk_L_usedOfRun 3 rfl) 4 rfl ?_
  refine h_cVl C hf (fun r hr => c_X11_usedOfRun hN hr) mw_X11_usedOfRun ln_RL_76 mi_X11_usedOfRun (hN.rc (ci := 11) sh0 rc11) (ro_of (by decide) (by decide) (by decide) (by decide)) rfl rfl (Nat.le_of_ble_eq_true rfl) (dkAt dk_L_usedOfRun 4 rfl) 7 rfl 2 12 rfl rfl (fun v1 M2 hf => ?_) (fun e4 M5 hf => ?_)
  · refine x_last C (hN.sh sh124) (dkAt dk_L_usedOfRun 5 rfl) 8 rfl hf (fun M3 hf => ?_)
    refine x_goto C 17 (dkAt dk_L_usedOfRun 6 rfl) (by decide) ?_
    refine x_iconst C (v := (0 : Int32)) (by decide) (dkAt dk_L_usedOfRun 13 rfl) 18 rfl ?_
    exact x_iret C E hf (by decide) (by decide) (dkAt dk_L_usedOfRun 14 rfl)
  · refine if_then hf (fun hE hf => ?_) (fun hE hf => ?_)
    · subst hE
      refine x_catch C hC hT [] ⟨0, 8, 11, 21⟩ [⟨0, 8, 14, 13⟩] rfl (fun _ h => nomatch h) (by decide) (by decide) (by decide) clk0 ckk0 (fun q6 => ?_)
      refine x_astore_n C (L1 := [some (.ref (wad Γ 0)), some (.int p1), some (.ref (wad Γ 124)), some (.ref q6)]) (dkAt dk_L_usedOfRun 7 rfl) 12 rfl rfl (by decide) rfl ?_
      refine x_iconst C (v := (1 : Int32)) (by decide) (dkAt dk_L_usedOfRun 8 rfl) 13 rfl ?_
      exact x_iret C E hf (by decide) (by decide) (dkAt dk_L_usedOfRun 9 rfl)
    · refine if_then hf (fun hE hf => ?_) (fun hE hf => ?_)
      · subst hE
        refine x_catch C hC hT [⟨0, 8, 11, 21⟩] ⟨0, 8, 14, 13⟩ [] rfl (List.forall_mem_cons.mpr ⟨⟨by decide, 0, by decide, by decide, clk0⟩, (fun _ h => nomatch h)⟩) (by decide) (by decide) (by decide) clk1 ckk1 (fun q7 => ?_)
        refine x_astore_n C (L1 := [some (.ref (wad Γ 0)), some (.int p1), some (.ref (wad Γ 124)), some (.ref q7)]) (dkAt dk_L_usedOfRun 10 rfl) 15 rfl rfl (by decide) rfl ?_
        refine x_iconst C (v := (2 : Int32)) (by decide) (dkAt dk_L_usedOfRun 11 rfl) 16 rfl ?_
        exact x_iret C E hf (by decide) (by decide) (dkAt dk_L_usedOfRun 12 rfl)
      · exact nomatch hf
def f_L_left (Z : Nat) (M : Mem) (p1 : Int32) : Option (Int32 × Mem) :=
  clT (f_X11_left Z M p1) (fun v1 M2 => wrL M2 124 1 (0 : Int32) v1 (fun M3 => some ((0 : Int32), M3))) (fun e4 M5 => (if e4 = 0 then some ((1 : Int32), M5) else (if e4 = 1 then some ((2 : Int32), M5) else none)))
set_option maxRecDepth 100000 in
theorem c_L_left {Γ : WC} (hN : HN Γ) (hC : NC Γ) {Z : Nat} {M : Mem} {p1 : Int32} {rM : Int32 × Mem}  (hf : f_L_left Z M p1 = some rM) : CtW Γ yL_left cL_left 4 (some .int) [(0, 8, 11, 21), (0, 8, 14, 13)] (rmL 9 2 12) [.ref (wad Γ 0), .int p1, .ref (wad Γ 124)] M (some (.int rM.1)) rM.2 := by
  refine mkW hN.1 (own := RL) rfl (by decide) (Nat.le_of_ble_eq_true rfl) (fun X C hT E => ?_)
  change G Γ X M 0 0 [some (.ref (wad Γ 0)), some (.int p1), some (.ref (wad Γ 124))] [] 0
  unfold f_L_left at hf
  refine x_aload_n C rfl rfl (dkAt dk_L_left 0 rfl) 1 rfl ?_
  refine x_iconst C (v := (0 : Int32)) (by decide) (dkAt dk_L_left 1 rfl) 2 rfl ?_
  refine x_aload_n C rfl rfl (dkAt dk_L_left 2 rfl) 3 rfl ?_
  refine x_iload_n C rfl rfl (dkAt dk_L_left 3 rfl) 4 rfl ?_
  refine h_cVl C hf (fun r hr => c_X11_left hN hr) mw_X11_left ln_RL_79 mi_X11_left (hN.rc (ci := 11) sh0 rc11) (ro_of (by decide) (by decide) (by decide) (by decide)) rfl rfl (Nat.le_of_ble_eq_true rfl) (dkAt dk_L_left 4 rfl) 7 rfl 2 12 rfl rfl (fun v1 M2 hf => ?_) (fun e4 M5 hf => ?_)
  · refine x_last C (hN.sh sh124) (dkAt dk_L_left 5 rfl) 8 rfl hf (fun M3 hf => ?_)
    refine x_goto C 17 (dkAt dk_L_left 6 rfl) (by decide) ?_
    refine x_iconst C (v := (0 : Int32)) (by decide) (dkAt dk_L_left 13 rfl) 18 rfl ?_
    exact x_iret C E hf (by decide) (by decide) (dkAt dk_L_left 14 rfl)
  · refine if_then hf (fun hE hf => ?_) (fun hE hf => ?_)
    · subst hE
      refine x_catch C hC hT [] ⟨0, 8, 11, 21⟩ [⟨0, 8, 14, 13⟩] rfl (fun _ h => nomatch h) (by decide) (by decide) (by decide) clk0 ckk0 (fun q6 => ?_)
      refine x_astore_n C (L1 := [some (.ref (wad Γ 0)), some (.int p1), some (.ref (wad Γ 124)), some (.ref q6)]) (dkAt dk_L_left 7 rfl) 12 rfl rfl (by decide) rfl ?_
      refine x_iconst C (v := (1 : Int32)) (by decide) (dkAt dk_L_left 8 rfl) 13 rfl ?_
      exact x_iret C E hf (by decide) (by decide) (dkAt dk_L_left 9 rfl)
    · refine if_then hf (fun hE hf => ?_) (fun hE hf => ?_)
      · subst hE
        refine x_catch C hC hT [⟨0, 8, 11, 21⟩] ⟨0, 8, 14, 13⟩ [] rfl (List.forall_mem_cons.mpr ⟨⟨by decide, 0, by decide, by decide, clk0⟩, (fun _ h => nomatch h)⟩) (by decide) (by decide) (by decide) clk1 ckk1 (fun q7 => ?_)
        refine x_astore_n C (L1 := [some (.ref (wad Γ 0)), some (.int p1), some (.ref (wad Γ 124)), some (.ref q7)]) (dkAt dk_L_left 10 rfl) 15 rfl rfl (by decide) rfl ?_
        refine x_iconst C (v := (2 : Int32)) (by decide) (dkAt dk_L_left 11 rfl) 16 rfl ?_
        exact x_iret C E hf (by decide) (by decide) (dkAt dk_L_left 12 rfl)
      · exact nomatch hf
def f_L_broken (Z : Nat) (M : Mem)  : Option (Int32 × Mem) :=
  clT (f_X11_broken Z M) (fun v1 M2 => wrL M2 124 1 (0 : Int32) v1.toInt64 (fun M3 => some ((0 : Int32), M3))) (fun e4 M5 => (if e4 = 0 then some ((1 : Int32), M5) else none))
set_option maxRecDepth 100000 in
theorem c_L_broken {Γ : WC} (hN : HN Γ) (hC : NC Γ) {Z : Nat} {M : Mem}  {rM : Int32 × Mem}  (hf : f_L_broken Z M  = some rM) : CtW Γ yL_broken cL_broken 3 (some .int) [(0, 8, 11, 21)] (rmL 8 1 6) [.ref (wad Γ 0), .ref (wad Γ 124)] M (some (.int rM.1)) rM.2 := by
  refine mkW hN.1 (own := RL) rfl (by decide) (Nat.le_of_ble_eq_true rfl) (fun X C hT E => ?_)
  change G Γ X M 0 0 [some (.ref (wad Γ 0)), some (.ref (wad Γ 124))] [] 0
  unfold f_L_broken at hf
  refine x_aload_n C rfl rfl (dkAt dk_L_broken 0 rfl) 1 rfl ?_
  refine x_iconst C (v := (0 : Int32)) (by decide) (dkAt dk_L_broken 1 rfl) 2 rfl ?_
  refine x_aload_n C rfl rfl (dkAt dk_L_broken 2 rfl) 3 rfl ?_
  refine h_cVi C hf (fun r hr => c_X11_broken hN hr) mw_X11_broken ln_RL_82 mi_X11_broken (hN.rc (ci := 11) sh0 rc11) (ro_of (by decide) (by decide) (by decide) (by decide)) rfl rfl (Nat.le_of_ble_eq_true rfl) (dkAt dk_L_broken 3 rfl) 6 rfl 1 6 rfl rfl (fun v1 M2 hf => ?_) (fun e4 M5 hf => ?_)
  · refine x_i2l C (dkAt dk_L_broken 4 rfl) 7 rfl ?_
    refine x_last C (hN.sh sh124) (dkAt dk_L_broken 5 rfl) 8 rfl hf (fun M3 hf => ?_)
    refine x_goto C 14 (dkAt dk_L_broken 6 rfl) (by decide) ?_
    refine x_iconst C (v := (0 : Int32)) (by decide) (dkAt dk_L_broken 10 rfl) 15 rfl ?_
    exact x_iret C E hf (by decide) (by decide) (dkAt dk_L_broken 11 rfl)
  · refine if_then hf (fun hE hf => ?_) (fun hE hf => ?_)
    · subst hE
      refine x_catch C hC hT [] ⟨0, 8, 11, 21⟩ [] rfl (fun _ h => nomatch h) (by decide) (by decide) (by decide) clk0 ckk0 (fun q6 => ?_)
      refine x_astore_n C (L1 := [some (.ref (wad Γ 0)), some (.ref (wad Γ 124)), some (.ref q6)]) (dkAt dk_L_broken 7 rfl) 12 rfl rfl (by decide) rfl ?_
      refine x_iconst C (v := (1 : Int32)) (by decide) (dkAt dk_L_broken 8 rfl) 13 rfl ?_
      exact x_iret C E hf (by decide) (by decide) (dkAt dk_L_broken 9 rfl)
    · exact nomatch hf
def f_L_within (Z : Nat) (M : Mem) (p1 : Int32) : Option (Int32 × Mem) :=
  clT (f_X11_within Z M p1) (fun v1 M2 => wrL M2 124 1 (0 : Int32) v1 (fun M3 => some ((0 : Int32), M3))) (fun e4 M5 => (if e4 = 0 then some ((1 : Int32), M5) else (if e4 = 1 then some ((2 : Int32), M5) else none)))
set_option maxRecDepth 100000 in
theorem c_L_within {Γ : WC} (hN : HN Γ) (hC : NC Γ) {Z : Nat} {M : Mem} {p1 : Int32} {rM : Int32 × Mem}  (hf : f_L_within Z M p1 = some rM) : CtW Γ yL_within cL_within 4 (some .int) [(0, 8, 11, 21), (0, 8, 14, 13)] (rmL 9 2 12) [.ref (wad Γ 0), .int p1, .ref (wad Γ 124)] M (some (.int rM.1)) rM.2 := by
  refine mkW hN.1 (own := RL) rfl (by decide) (Nat.le_of_ble_eq_true rfl) (fun X C hT E => ?_)
  change G Γ X M 0 0 [some (.ref (wad Γ 0)), some (.int p1), some (.ref (wad Γ 124))] [] 0
  unfold f_L_within at hf
  refine x_aload_n C rfl rfl (dkAt dk_L_within 0 rfl) 1 rfl ?_
  refine x_iconst C (v := (0 : Int32)) (by decide) (dkAt dk_L_within 1 rfl) 2 rfl ?_
  refine x_aload_n C rfl rfl (dkAt dk_L_within 2 rfl) 3 rfl ?_
  refine x_iload_n C rfl rfl (dkAt dk_L_within 3 rfl) 4 rfl ?_
  refine h_cVl C hf (fun r hr => c_X11_within hN hr) mw_X11_within ln_RL_85 mi_X11_within (hN.rc (ci := 11) sh0 rc11) (ro_of (by decide) (by decide) (by decide) (by decide)) rfl rfl (Nat.le_of_ble_eq_true rfl) (dkAt dk_L_within 4 rfl) 7 rfl 2 12 rfl rfl (fun v1 M2 hf => ?_) (fun e4 M5 hf => ?_)
  · refine x_last C (hN.sh sh124) (dkAt dk_L_within 5 rfl) 8 rfl hf (fun M3 hf => ?_)
    refine x_goto C 17 (dkAt dk_L_within 6 rfl) (by decide) ?_
    refine x_iconst C (v := (0 : Int32)) (by decide) (dkAt dk_L_within 13 rfl) 18 rfl ?_
    exact x_iret C E hf (by decide) (by decide) (dkAt dk_L_within 14 rfl)
  · refine if_then hf (fun hE hf => ?_) (fun hE hf => ?_)
    · subst hE
      refine x_catch C hC hT [] ⟨0, 8, 11, 21⟩ [⟨0, 8, 14, 13⟩] rfl (fun _ h => nomatch h) (by decide) (by decide) (by decide) clk0 ckk0 (fun q6 => ?_)
      refine x_astore_n C (L1 := [some (.ref (wad Γ 0)), some (.int p1), some (.ref (wad Γ 124)), some (.ref q6)]) (dkAt dk_L_within 7 rfl) 12 rfl rfl (by decide) rfl ?_
      refine x_iconst C (v := (1 : Int32)) (by decide) (dkAt dk_L_within 8 rfl) 13 rfl ?_
      exact x_iret C E hf (by decide) (by decide) (dkAt dk_L_within 9 rfl)
    · refine if_then hf (fun hE hf => ?_) (fun hE hf => ?_)
      · subst hE
        refine x_catch C hC hT [⟨0, 8, 11, 21⟩] ⟨0, 8, 14, 13⟩ [] rfl (List.forall_mem_cons.mpr ⟨⟨by decide, 0, by decide, by decide, clk0⟩, (fun _ h => nomatch h)⟩) (by decide) (by decide) (by decide) clk1 ckk1 (fun q7 => ?_)
        refine x_astore_n C (L1 := [some (.ref (wad Γ 0)), some (.int p1), some (.ref (wad Γ 124)), some (.ref q7)]) (dkAt dk_L_within 10 rfl) 15 rfl rfl (by decide) rfl ?_
        refine x_iconst C (v := (2 : Int32)) (by decide) (dkAt dk_L_within 11 rfl) 16 rfl ?_
        exact x_iret C E hf (by decide) (by decide) (dkAt dk_L_within 12 rfl)
      · exact nomatch hf
def f_L_mostUsed (Z : Nat) (M : Mem) (p1 : Int32) : Option (Int32 × Mem) :=
  clT (f_X11_mostUsed Z M p1) (fun v1 M2 => wrL M2 124 1 (0 : Int32) v1.toInt64 (fun M3 => some ((0 : Int32), M3))) (fun e4 M5 => (if e4 = 0 then some ((1 : Int32), M5) else (if e4 = 1 then some ((2 : Int32), M5) else none)))
set_option maxRecDepth 100000 in
theorem c_L_mostUsed {Γ : WC} (hN : HN Γ) (hC : NC Γ) {Z : Nat} {M : Mem} {p1 : Int32} {rM : Int32 × Mem}  (hf : f_L_mostUsed Z M p1 = some rM) : CtW Γ yL_mostUsed cL_mostUsed 4 (some .int) [(0, 9, 12, 21), (0, 9, 15, 13)] (rmL 9 2 12) [.ref (wad Γ 0), .int p1, .ref (wad Γ 124)] M (some (.int rM.1)) rM.2 := by
  refine mkW hN.1 (own := RL) rfl (by decide) (Nat.le_of_ble_eq_true rfl) (fun X C hT E => ?_)
  change G Γ X M 0 0 [some (.ref (wad Γ 0)), some (.int p1), some (.ref (wad Γ 124))] [] 0
  unfold f_L_mostUsed at hf
  refine x_aload_n C rfl rfl (dkAt dk_L_mostUsed 0 rfl) 1 rfl ?_
  refine x_iconst C (v := (0 : Int32)) (by decide) (dkAt dk_L_mostUsed 1 rfl) 2 rfl ?_
  refine x_aload_n C rfl rfl (dkAt dk_L_mostUsed 2 rfl) 3 rfl ?_
  refine x_iload_n C rfl rfl (dkAt dk_L_mostUsed 3 rfl) 4 rfl ?_
  refine h_cVi C hf (fun r hr => c_X11_mostUsed hN hr) mw_X11_mostUsed ln_RL_88 mi_X11_mostUsed (hN.rc (ci := 11) sh0 rc11) (ro_of (by decide) (by decide) (by decide) (by decide)) rfl rfl (Nat.le_of_ble_eq_true rfl) (dkAt dk_L_mostUsed 4 rfl) 7 rfl 2 12 rfl rfl (fun v1 M2 hf => ?_) (fun e4 M5 hf => ?_)
  · refine x_i2l C (dkAt dk_L_mostUsed 5 rfl) 8 rfl ?_
    refine x_last C (hN.sh sh124) (dkAt dk_L_mostUsed 6 rfl) 9 rfl hf (fun M3 hf => ?_)
    refine x_goto C 18 (dkAt dk_L_mostUsed 7 rfl) (by decide) ?_
    refine x_iconst C (v := (0 : Int32)) (by decide) (dkAt dk_L_mostUsed 14 rfl) 19 rfl ?_
    exact x_iret C E hf (by decide) (by decide) (dkAt dk_L_mostUsed 15 rfl)
  · refine if_then hf (fun hE hf => ?_) (fun hE hf => ?_)
    · subst hE
      refine x_catch C hC hT [] ⟨0, 9, 12, 21⟩ [⟨0, 9, 15, 13⟩] rfl (fun _ h => nomatch h) (by decide) (by decide) (by decide) clk0 ckk0 (fun q6 => ?_)
      refine x_astore_n C (L1 := [some (.ref (wad Γ 0)), some (.int p1), some (.ref (wad Γ 124)), some (.ref q6)]) (dkAt dk_L_mostUsed 8 rfl) 13 rfl rfl (by decide) rfl ?_
      refine x_iconst C (v := (1 : Int32)) (by decide) (dkAt dk_L_mostUsed 9 rfl) 14 rfl ?_
      exact x_iret C E hf (by decide) (by decide) (dkAt dk_L_mostUsed 10 rfl)
    · refine if_then hf (fun hE hf => ?_) (fun hE hf => ?_)
      · subst hE
        refine x_catch C hC hT [⟨0, 9, 12, 21⟩] ⟨0, 9, 15, 13⟩ [] rfl (List.forall_mem_cons.mpr ⟨⟨by decide, 0, by decide, by decide, clk0⟩, (fun _ h => nomatch h)⟩) (by decide) (by decide) (by decide) clk1 ckk1 (fun q7 => ?_)
        refine x_astore_n C (L1 := [some (.ref (wad Γ 0)), some (.int p1), some (.ref (wad Γ 124)), some (.ref q7)]) (dkAt dk_L_mostUsed 11 rfl) 16 rfl rfl (by decide) rfl ?_
        refine x_iconst C (v := (2 : Int32)) (by decide) (dkAt dk_L_mostUsed 12 rfl) 17 rfl ?_
        exact x_iret C E hf (by decide) (by decide) (dkAt dk_L_mostUsed 13 rfl)
      · exact nomatch hf
def f_L_firstTime (Z : Nat) (M : Mem) (p1 : Int32) : Option (Int32 × Mem) :=
  clT (f_X11_firstTime Z M p1) (fun v1 M2 => wrL M2 124 1 (0 : Int32) v1.toInt64 (fun M3 => some ((0 : Int32), M3))) (fun e4 M5 => (if e4 = 0 then some ((1 : Int32), M5) else (if e4 = 1 then some ((2 : Int32), M5) else none)))
set_option maxRecDepth 100000 in
theorem c_L_firstTime {Γ : WC} (hN : HN Γ) (hC : NC Γ) {Z : Nat} {M : Mem} {p1 : Int32} {rM : Int32 × Mem}  (hf : f_L_firstTime Z M p1 = some rM) : CtW Γ yL_firstTime cL_firstTime 4 (some .int) [(0, 9, 12, 21), (0, 9, 15, 13)] (rmL 9 2 12) [.ref (wad Γ 0), .int p1, .ref (wad Γ 124)] M (some (.int rM.1)) rM.2 := by
  refine mkW hN.1 (own := RL) rfl (by decide) (Nat.le_of_ble_eq_true rfl) (fun X C hT E => ?_)
  change G Γ X M 0 0 [some (.ref (wad Γ 0)), some (.int p1), some (.ref (wad Γ 124))] [] 0
  unfold f_L_firstTime at hf
  refine x_aload_n C rfl rfl (dkAt dk_L_firstTime 0 rfl) 1 rfl ?_
  refine x_iconst C (v := (0 : Int32)) (by decide) (dkAt dk_L_firstTime 1 rfl) 2 rfl ?_
  refine x_aload_n C rfl rfl (dkAt dk_L_firstTime 2 rfl) 3 rfl ?_
  refine x_iload_n C rfl rfl (dkAt dk_L_firstTime 3 rfl) 4 rfl ?_
  refine h_cVi C hf (fun r hr => c_X11_firstTime hN hr) mw_X11_firstTime ln_RL_91 mi_X11_firstTime (hN.rc (ci := 11) sh0 rc11) (ro_of (by decide) (by decide) (by decide) (by decide)) rfl rfl (Nat.le_of_ble_eq_true rfl) (dkAt dk_L_firstTime 4 rfl) 7 rfl 2 12 rfl rfl (fun v1 M2 hf => ?_) (fun e4 M5 hf => ?_)
  · refine x_i2l C (dkAt dk_L_firstTime 5 rfl) 8 rfl ?_
    refine x_last C (hN.sh sh124) (dkAt dk_L_firstTime 6 rfl) 9 rfl hf (fun M3 hf => ?_)
    refine x_goto C 18 (dkAt dk_L_firstTime 7 rfl) (by decide) ?_
    refine x_iconst C (v := (0 : Int32)) (by decide) (dkAt dk_L_firstTime 14 rfl) 19 rfl ?_
    exact x_iret C E hf (by decide) (by decide) (dkAt dk_L_firstTime 15 rfl)
  · refine if_then hf (fun hE hf => ?_) (fun hE hf => ?_)
    · subst hE
      refine x_catch C hC hT [] ⟨0, 9, 12, 21⟩ [⟨0, 9, 15, 13⟩] rfl (fun _ h => nomatch h) (by decide) (by decide) (by decide) clk0 ckk0 (fun q6 => ?_)
      refine x_astore_n C (L1 := [some (.ref (wad Γ 0)), some (.int p1), some (.ref (wad Γ 124)), some (.ref q6)]) (dkAt dk_L_firstTime 8 rfl) 13 rfl rfl (by decide) rfl ?_
      refine x_iconst C (v := (1 : Int32)) (by decide) (dkAt dk_L_firstTime 9 rfl) 14 rfl ?_
      exact x_iret C E hf (by decide) (by decide) (dkAt dk_L_firstTime 10 rfl)
    · refine if_then hf (fun hE hf => ?_) (fun hE hf => ?_)
      · subst hE
        refine x_catch C hC hT [⟨0, 9, 12, 21⟩] ⟨0, 9, 15, 13⟩ [] rfl (List.forall_mem_cons.mpr ⟨⟨by decide, 0, by decide, by decide, clk0⟩, (fun _ h => nomatch h)⟩) (by decide) (by decide) (by decide) clk1 ckk1 (fun q7 => ?_)
        refine x_astore_n C (L1 := [some (.ref (wad Γ 0)), some (.int p1), some (.ref (wad Γ 124)), some (.ref q7)]) (dkAt dk_L_firstTime 11 rfl) 16 rfl rfl (by decide) rfl ?_
        refine x_iconst C (v := (2 : Int32)) (by decide) (dkAt dk_L_firstTime 12 rfl) 17 rfl ?_
        exact x_iret C E hf (by decide) (by decide) (dkAt dk_L_firstTime 13 rfl)
      · exact nomatch hf
def f_L_busiest (Z : Nat) (M : Mem) (p1 : Int32) : Option (Int32 × Mem) :=
  clT (f_X11_busiest Z M p1) (fun v1 M2 => wrL M2 124 1 (0 : Int32) v1.toInt64 (fun M3 => some ((0 : Int32), M3))) (fun e4 M5 => (if e4 = 0 then some ((1 : Int32), M5) else (if e4 = 1 then some ((2 : Int32), M5) else none)))
set_option maxRecDepth 100000 in
theorem c_L_busiest {Γ : WC} (hN : HN Γ) (hC : NC Γ) {Z : Nat} {M : Mem} {p1 : Int32} {rM : Int32 × Mem}  (hf : f_L_busiest Z M p1 = some rM) : CtW Γ yL_busiest cL_busiest 4 (some .int) [(0, 9, 12, 21), (0, 9, 15, 13)] (rmL 9 2 12) [.ref (wad Γ 0), .int p1, .ref (wad Γ 124)] M (some (.int rM.1)) rM.2 := by
  refine mkW hN.1 (own := RL) rfl (by decide) (Nat.le_of_ble_eq_true rfl) (fun X C hT E => ?_)
  change G Γ X M 0 0 [some (.ref (wad Γ 0)), some (.int p1), some (.ref (wad Γ 124))] [] 0
  unfold f_L_busiest at hf
  refine x_aload_n C rfl rfl (dkAt dk_L_busiest 0 rfl) 1 rfl ?_
  refine x_iconst C (v := (0 : Int32)) (by decide) (dkAt dk_L_busiest 1 rfl) 2 rfl ?_
  refine x_aload_n C rfl rfl (dkAt dk_L_busiest 2 rfl) 3 rfl ?_
  refine x_iload_n C rfl rfl (dkAt dk_L_busiest 3 rfl) 4 rfl ?_
  refine h_cVi C hf (fun r hr => c_X11_busiest hN hr) mw_X11_busiest ln_RL_94 mi_X11_busiest (hN.rc (ci := 11) sh0 rc11) (ro_of (by decide) (by decide) (by decide) (by decide)) rfl rfl (Nat.le_of_ble_eq_true rfl) (dkAt dk_L_busiest 4 rfl) 7 rfl 2 12 rfl rfl (fun v1 M2 hf => ?_) (fun e4 M5 hf => ?_)
  · refine x_i2l C (dkAt dk_L_busiest 5 rfl) 8 rfl ?_
    refine x_last C (hN.sh sh124) (dkAt dk_L_busiest 6 rfl) 9 rfl hf (fun M3 hf => ?_)
    refine x_goto C 18 (dkAt dk_L_busiest 7 rfl) (by decide) ?_
    refine x_iconst C (v := (0 : Int32)) (by decide) (dkAt dk_L_busiest 14 rfl) 19 rfl ?_
    exact x_iret C E hf (by decide) (by decide) (dkAt dk_L_busiest 15 rfl)
  · refine if_then hf (fun hE hf => ?_) (fun hE hf => ?_)
    · subst hE
      refine x_catch C hC hT [] ⟨0, 9, 12, 21⟩ [⟨0, 9, 15, 13⟩] rfl (fun _ h => nomatch h) (by decide) (by decide) (by decide) clk0 ckk0 (fun q6 => ?_)
      refine x_astore_n C (L1 := [some (.ref (wad Γ 0)), some (.int p1), some (.ref (wad Γ 124)), some (.ref q6)]) (dkAt dk_L_busiest 8 rfl) 13 rfl rfl (by decide) rfl ?_
      refine x_iconst C (v := (1 : Int32)) (by decide) (dkAt dk_L_busiest 9 rfl) 14 rfl ?_
      exact x_iret C E hf (by decide) (by decide) (dkAt dk_L_busiest 10 rfl)
    · refine if_then hf (fun hE hf => ?_) (fun hE hf => ?_)
      · subst hE
        refine x_catch C hC hT [⟨0, 9, 12, 21⟩] ⟨0, 9, 15, 13⟩ [] rfl (List.forall_mem_cons.mpr ⟨⟨by decide, 0, by decide, by decide, clk0⟩, (fun _ h => nomatch h)⟩) (by decide) (by decide) (by decide) clk1 ckk1 (fun q7 => ?_)
        refine x_astore_n C (L1 := [some (.ref (wad Γ 0)), some (.int p1), some (.ref (wad Γ 124)), some (.ref q7)]) (dkAt dk_L_busiest 11 rfl) 16 rfl rfl (by decide) rfl ?_
        refine x_iconst C (v := (2 : Int32)) (by decide) (dkAt dk_L_busiest 12 rfl) 17 rfl ?_
        exact x_iret C E hf (by decide) (by decide) (dkAt dk_L_busiest 13 rfl)
      · exact nomatch hf
def f_L_meanGain (Z : Nat) (M : Mem)  : Option (Int32 × Mem) :=
  clT (f_X11_meanGain Z M) (fun v1 M2 => okD (FP.f2d v1) (wrD M2 125 1 (0 : Int32) (FP.f2d v1) (fun M3 => some ((0 : Int32), M3)))) (fun e4 M5 => (if e4 = 0 then some ((1 : Int32), M5) else none))
set_option maxRecDepth 100000 in
theorem c_L_meanGain {Γ : WC} (hN : HN Γ) (hC : NC Γ) {Z : Nat} {M : Mem}  {rM : Int32 × Mem}  (hf : f_L_meanGain Z M  = some rM) : CtW Γ yL_meanGain cL_meanGain 3 (some .int) [(0, 8, 11, 21)] (rmL 8 1 6) [.ref (wad Γ 0), .ref (wad Γ 125)] M (some (.int rM.1)) rM.2 := by
  refine mkW hN.1 (own := RL) rfl (by decide) (Nat.le_of_ble_eq_true rfl) (fun X C hT E => ?_)
  change G Γ X M 0 0 [some (.ref (wad Γ 0)), some (.ref (wad Γ 125))] [] 0
  unfold f_L_meanGain at hf
  refine x_aload_n C rfl rfl (dkAt dk_L_meanGain 0 rfl) 1 rfl ?_
  refine x_iconst C (v := (0 : Int32)) (by decide) (dkAt dk_L_meanGain 1 rfl) 2 rfl ?_
  refine x_aload_n C rfl rfl (dkAt dk_L_meanGain 2 rfl) 3 rfl ?_
  refine h_cVf C hf (fun r hr => c_X11_meanGain hN hr) mw_X11_meanGain ln_RL_97 mi_X11_meanGain (hN.rc (ci := 11) sh0 rc11) (ro_of (by decide) (by decide) (by decide) (by decide)) rfl rfl (Nat.le_of_ble_eq_true rfl) (dkAt dk_L_meanGain 3 rfl) 6 rfl 1 6 rfl rfl (fun v1 M2 hf => ?_) (fun e4 M5 hf => ?_)
  · refine x_f2dK C (dkAt dk_L_meanGain 4 rfl) 7 rfl hf (fun hf => ?_)
    refine x_dast C (hN.sh sh125) (dkAt dk_L_meanGain 5 rfl) 8 rfl hf (fun M3 hf => ?_)
    refine x_goto C 14 (dkAt dk_L_meanGain 6 rfl) (by decide) ?_
    refine x_iconst C (v := (0 : Int32)) (by decide) (dkAt dk_L_meanGain 10 rfl) 15 rfl ?_
    exact x_iret C E hf (by decide) (by decide) (dkAt dk_L_meanGain 11 rfl)
  · refine if_then hf (fun hE hf => ?_) (fun hE hf => ?_)
    · subst hE
      refine x_catch C hC hT [] ⟨0, 8, 11, 21⟩ [] rfl (fun _ h => nomatch h) (by decide) (by decide) (by decide) clk0 ckk0 (fun q6 => ?_)
      refine x_astore_n C (L1 := [some (.ref (wad Γ 0)), some (.ref (wad Γ 125)), some (.ref q6)]) (dkAt dk_L_meanGain 7 rfl) 12 rfl rfl (by decide) rfl ?_
      refine x_iconst C (v := (1 : Int32)) (by decide) (dkAt dk_L_meanGain 8 rfl) 13 rfl ?_
      exact x_iret C E hf (by decide) (by decide) (dkAt dk_L_meanGain 9 rfl)
    · exact nomatch hf
def f_L_likeliest (Z : Nat) (M : Mem)  : Option (Int32 × Mem) :=
  clT (f_X11_likeliest Z M) (fun v1 M2 => wrL M2 124 1 (0 : Int32) v1 (fun M3 => some ((0 : Int32), M3))) (fun e4 M5 => (if e4 = 0 then some ((1 : Int32), M5) else none))
set_option maxRecDepth 100000 in
theorem c_L_likeliest {Γ : WC} (hN : HN Γ) (hC : NC Γ) {Z : Nat} {M : Mem}  {rM : Int32 × Mem}  (hf : f_L_likeliest Z M  = some rM) : CtW Γ yL_likeliest cL_likeliest 3 (some .int) [(0, 7, 10, 21)] (rmL 8 1 6) [.ref (wad Γ 0), .ref (wad Γ 124)] M (some (.int rM.1)) rM.2 := by
  refine mkW hN.1 (own := RL) rfl (by decide) (Nat.le_of_ble_eq_true rfl) (fun X C hT E => ?_)
  change G Γ X M 0 0 [some (.ref (wad Γ 0)), some (.ref (wad Γ 124))] [] 0
  unfold f_L_likeliest at hf
  refine x_aload_n C rfl rfl (dkAt dk_L_likeliest 0 rfl) 1 rfl ?_
  refine x_iconst C (v := (0 : Int32)) (by decide) (dkAt dk_L_likeliest 1 rfl) 2 rfl ?_
  refine x_aload_n C rfl rfl (dkAt dk_L_likeliest 2 rfl) 3 rfl ?_
  refine h_cVl C hf (fun r hr => c_X11_likeliest hN hr) mw_X11_likeliest ln_RL_101 mi_X11_likeliest (hN.rc (ci := 11) sh0 rc11) (ro_of (by decide) (by decide) (by decide) (by decide)) rfl rfl (Nat.le_of_ble_eq_true rfl) (dkAt dk_L_likeliest 3 rfl) 6 rfl 1 6 rfl rfl (fun v1 M2 hf => ?_) (fun e4 M5 hf => ?_)
  · refine x_last C (hN.sh sh124) (dkAt dk_L_likeliest 4 rfl) 7 rfl hf (fun M3 hf => ?_)
    refine x_goto C 13 (dkAt dk_L_likeliest 5 rfl) (by decide) ?_
    refine x_iconst C (v := (0 : Int32)) (by decide) (dkAt dk_L_likeliest 9 rfl) 14 rfl ?_
    exact x_iret C E hf (by decide) (by decide) (dkAt dk_L_likeliest 10 rfl)
  · refine if_then hf (fun hE hf => ?_) (fun hE hf => ?_)
    · subst hE
      refine x_catch C hC hT [] ⟨0, 7, 10, 21⟩ [] rfl (fun _ h => nomatch h) (by decide) (by decide) (by decide) clk0 ckk0 (fun q6 => ?_)
      refine x_astore_n C (L1 := [some (.ref (wad Γ 0)), some (.ref (wad Γ 124)), some (.ref q6)]) (dkAt dk_L_likeliest 6 rfl) 11 rfl rfl (by decide) rfl ?_
      refine x_iconst C (v := (1 : Int32)) (by decide) (dkAt dk_L_likeliest 7 rfl) 12 rfl ?_
      exact x_iret C E hf (by decide) (by decide) (dkAt dk_L_likeliest 8 rfl)
    · exact nomatch hf
def f_L_likeliestAt (Z : Nat) (M : Mem) (p1 : Int32) : Option (Int32 × Mem) :=
  clT (f_X11_likeliestAt Z M p1) (fun v1 M2 => wrL M2 124 1 (0 : Int32) v1.toInt64 (fun M3 => some ((0 : Int32), M3))) (fun e4 M5 => (if e4 = 0 then some ((1 : Int32), M5) else (if e4 = 2 then some ((2 : Int32), M5) else none)))
set_option maxRecDepth 100000 in
theorem c_L_likeliestAt {Γ : WC} (hN : HN Γ) (hC : NC Γ) {Z : Nat} {M : Mem} {p1 : Int32} {rM : Int32 × Mem}  (hf : f_L_likeliestAt Z M p1 = some rM) : CtW Γ yL_likeliestAt cL_likeliestAt 4 (some .int) [(0, 9, 12, 21), (0, 9, 15, 15)] (rmL 9 2 12) [.ref (wad Γ 0), .int p1, .ref (wad Γ 124)] M (some (.int rM.1)) rM.2 := by
  refine mkW hN.1 (own := RL) rfl (by decide) (Nat.le_of_ble_eq_true rfl) (fun X C hT E => ?_)
  change G Γ X M 0 0 [some (.ref (wad Γ 0)), some (.int p1), some (.ref (wad Γ 124))] [] 0
  unfold f_L_likeliestAt at hf
  refine x_aload_n C rfl rfl (dkAt dk_L_likeliestAt 0 rfl) 1 rfl ?_
  refine x_iconst C (v := (0 : Int32)) (by decide) (dkAt dk_L_likeliestAt 1 rfl) 2 rfl ?_
  refine x_aload_n C rfl rfl (dkAt dk_L_likeliestAt 2 rfl) 3 rfl ?_
  refine x_iload_n C rfl rfl (dkAt dk_L_likeliestAt 3 rfl) 4 rfl ?_
  refine h_cVi C hf (fun r hr => c_X11_likeliestAt hN hr) mw_X11_likeliestAt ln_RL_104 mi_X11_likeliestAt (hN.rc (ci := 11) sh0 rc11) (ro_of (by decide) (by decide) (by decide) (by decide)) rfl rfl (Nat.le_of_ble_eq_true rfl) (dkAt dk_L_likeliestAt 4 rfl) 7 rfl 2 12 rfl rfl (fun v1 M2 hf => ?_) (fun e4 M5 hf => ?_)
  · refine x_i2l C (dkAt dk_L_likeliestAt 5 rfl) 8 rfl ?_
    refine x_last C (hN.sh sh124) (dkAt dk_L_likeliestAt 6 rfl) 9 rfl hf (fun M3 hf => ?_)
    refine x_goto C 18 (dkAt dk_L_likeliestAt 7 rfl) (by decide) ?_
    refine x_iconst C (v := (0 : Int32)) (by decide) (dkAt dk_L_likeliestAt 14 rfl) 19 rfl ?_
    exact x_iret C E hf (by decide) (by decide) (dkAt dk_L_likeliestAt 15 rfl)
  · refine if_then hf (fun hE hf => ?_) (fun hE hf => ?_)
    · subst hE
      refine x_catch C hC hT [] ⟨0, 9, 12, 21⟩ [⟨0, 9, 15, 15⟩] rfl (fun _ h => nomatch h) (by decide) (by decide) (by decide) clk0 ckk0 (fun q6 => ?_)
      refine x_astore_n C (L1 := [some (.ref (wad Γ 0)), some (.int p1), some (.ref (wad Γ 124)), some (.ref q6)]) (dkAt dk_L_likeliestAt 8 rfl) 13 rfl rfl (by decide) rfl ?_
      refine x_iconst C (v := (1 : Int32)) (by decide) (dkAt dk_L_likeliestAt 9 rfl) 14 rfl ?_
      exact x_iret C E hf (by decide) (by decide) (dkAt dk_L_likeliestAt 10 rfl)
    · refine if_then hf (fun hE hf => ?_) (fun hE hf => ?_)
      · subst hE
        refine x_catch C hC hT [⟨0, 9, 12, 21⟩] ⟨0, 9, 15, 15⟩ [] rfl (List.forall_mem_cons.mpr ⟨⟨by decide, 0, by decide, by decide, clk0⟩, (fun _ h => nomatch h)⟩) (by decide) (by decide) (by decide) clk2 ckk2 (fun q7 => ?_)
        refine x_astore_n C (L1 := [some (.ref (wad Γ 0)), some (.int p1), some (.ref (wad Γ 124)), some (.ref q7)]) (dkAt dk_L_likeliestAt 11 rfl) 16 rfl rfl (by decide) rfl ?_
        refine x_iconst C (v := (2 : Int32)) (by decide) (dkAt dk_L_likeliestAt 12 rfl) 17 rfl ?_
        exact x_iret C E hf (by decide) (by decide) (dkAt dk_L_likeliestAt 13 rfl)
      · exact nomatch hf
def f_L_value (Z : Nat) (M : Mem) (p1 : Int32) (p2 : Int32) : Option (Int32 × Mem) :=
  clT (f_X11_value Z M p1 p2) (fun v1 M2 => wrL M2 124 1 (0 : Int32) v1 (fun M3 => some ((0 : Int32), M3))) (fun e4 M5 => (if e4 = 0 then some ((1 : Int32), M5) else (if e4 = 1 then some ((2 : Int32), M5) else (if e4 = 2 then some ((3 : Int32), M5) else none))))
set_option maxRecDepth 100000 in
theorem c_L_value {Γ : WC} (hN : HN Γ) (hC : NC Γ) {Z : Nat} {M : Mem} {p1 : Int32} {p2 : Int32} {rM : Int32 × Mem}  (hf : f_L_value Z M p1 p2 = some rM) : CtW Γ yL_value cL_value 5 (some .int) [(0, 9, 12, 21), (0, 9, 16, 13), (0, 9, 20, 15)] (rmL 9 3 18) [.ref (wad Γ 0), .int p1, .int p2, .ref (wad Γ 124)] M (some (.int rM.1)) rM.2 := by
  refine mkW hN.1 (own := RL) rfl (by decide) (Nat.le_of_ble_eq_true rfl) (fun X C hT E => ?_)
  change G Γ X M 0 0 [some (.ref (wad Γ 0)), some (.int p1), some (.int p2), some (.ref (wad Γ 124))] [] 0
  unfold f_L_value at hf
  refine x_aload_n C rfl rfl (dkAt dk_L_value 0 rfl) 1 rfl ?_
  refine x_iconst C (v := (0 : Int32)) (by decide) (dkAt dk_L_value 1 rfl) 2 rfl ?_
  refine x_aload_n C rfl rfl (dkAt dk_L_value 2 rfl) 3 rfl ?_
  refine x_iload_n C rfl rfl (dkAt dk_L_value 3 rfl) 4 rfl ?_
  refine x_iload_n C rfl rfl (dkAt dk_L_value 4 rfl) 5 rfl ?_
  refine h_cVl C hf (fun r hr => c_X11_value hN hr) mw_X11_value ln_RL_107 mi_X11_value (hN.rc (ci := 11) sh0 rc11) (ro_of (by decide) (by decide) (by decide) (by decide)) rfl rfl (Nat.le_of_ble_eq_true rfl) (dkAt dk_L_value 5 rfl) 8 rfl 3 18 rfl rfl (fun v1 M2 hf => ?_) (fun e4 M5 hf => ?_)
  · refine x_last C (hN.sh sh124) (dkAt dk_L_value 6 rfl) 9 rfl hf (fun M3 hf => ?_)
    refine x_goto C 24 (dkAt dk_L_value 7 rfl) (by decide) ?_
    refine x_iconst C (v := (0 : Int32)) (by decide) (dkAt dk_L_value 17 rfl) 25 rfl ?_
    exact x_iret C E hf (by decide) (by decide) (dkAt dk_L_value 18 rfl)
  · refine if_then hf (fun hE hf => ?_) (fun hE hf => ?_)
    · subst hE
      refine x_catch C hC hT [] ⟨0, 9, 12, 21⟩ [⟨0, 9, 16, 13⟩, ⟨0, 9, 20, 15⟩] rfl (fun _ h => nomatch h) (by decide) (by decide) (by decide) clk0 ckk0 (fun q6 => ?_)
      refine x_astore C (L1 := [some (.ref (wad Γ 0)), some (.int p1), some (.int p2), some (.ref (wad Γ 124)), some (.ref q6)]) (dkAt dk_L_value 8 rfl) 14 rfl (by decide) rfl ?_
      refine x_iconst C (v := (1 : Int32)) (by decide) (dkAt dk_L_value 9 rfl) 15 rfl ?_
      exact x_iret C E hf (by decide) (by decide) (dkAt dk_L_value 10 rfl)
    · refine if_then hf (fun hE hf => ?_) (fun hE hf => ?_)
      · subst hE
        refine x_catch C hC hT [⟨0, 9, 12, 21⟩] ⟨0, 9, 16, 13⟩ [⟨0, 9, 20, 15⟩] rfl (List.forall_mem_cons.mpr ⟨⟨by decide, 0, by decide, by decide, clk0⟩, (fun _ h => nomatch h)⟩) (by decide) (by decide) (by decide) clk1 ckk1 (fun q7 => ?_)
        refine x_astore C (L1 := [some (.ref (wad Γ 0)), some (.int p1), some (.int p2), some (.ref (wad Γ 124)), some (.ref q7)]) (dkAt dk_L_value 11 rfl) 18 rfl (by decide) rfl ?_
        refine x_iconst C (v := (2 : Int32)) (by decide) (dkAt dk_L_value 12 rfl) 19 rfl ?_
        exact x_iret C E hf (by decide) (by decide) (dkAt dk_L_value 13 rfl)
      · refine if_then hf (fun hE hf => ?_) (fun hE hf => ?_)
        · subst hE
          refine x_catch C hC hT [⟨0, 9, 12, 21⟩, ⟨0, 9, 16, 13⟩] ⟨0, 9, 20, 15⟩ [] rfl (List.forall_mem_cons.mpr ⟨⟨by decide, 0, by decide, by decide, clk0⟩, (List.forall_mem_cons.mpr ⟨⟨by decide, 1, by decide, by decide, clk1⟩, (fun _ h => nomatch h)⟩)⟩) (by decide) (by decide) (by decide) clk2 ckk2 (fun q8 => ?_)
          refine x_astore C (L1 := [some (.ref (wad Γ 0)), some (.int p1), some (.int p2), some (.ref (wad Γ 124)), some (.ref q8)]) (dkAt dk_L_value 14 rfl) 22 rfl (by decide) rfl ?_
          refine x_iconst C (v := (3 : Int32)) (by decide) (dkAt dk_L_value 15 rfl) 23 rfl ?_
          exact x_iret C E hf (by decide) (by decide) (dkAt dk_L_value 16 rfl)
        · exact nomatch hf
def f_L_valueAction (Z : Nat) (M : Mem) (p1 : Int32) (p2 : Int32) : Option (Int32 × Mem) :=
  clT (f_X11_valueAction Z M p1 p2) (fun v1 M2 => wrL M2 124 1 (0 : Int32) v1.toInt64 (fun M3 => some ((0 : Int32), M3))) (fun e4 M5 => (if e4 = 0 then some ((1 : Int32), M5) else (if e4 = 1 then some ((2 : Int32), M5) else (if e4 = 2 then some ((3 : Int32), M5) else none))))
set_option maxRecDepth 100000 in
theorem c_L_valueAction {Γ : WC} (hN : HN Γ) (hC : NC Γ) {Z : Nat} {M : Mem} {p1 : Int32} {p2 : Int32} {rM : Int32 × Mem}  (hf : f_L_valueAction Z M p1 p2 = some rM) : CtW Γ yL_valueAction cL_valueAction 5 (some .int) [(0, 10, 13, 21), (0, 10, 17, 13), (0, 10, 21, 15)] (rmL 9 3 18) [.ref (wad Γ 0), .int p1, .int p2, .ref (wad Γ 124)] M (some (.int rM.1)) rM.2 := by
  refine mkW hN.1 (own := RL) rfl (by decide) (Nat.le_of_ble_eq_true rfl) (fun X C hT E => ?_)
  change G Γ X M 0 0 [some (.ref (wad Γ 0)), some (.int p1), some (.int p2), some (.ref (wad Γ 124))] [] 0
  unfold f_L_valueAction at hf
  refine x_aload_n C rfl rfl (dkAt dk_L_valueAction 0 rfl) 1 rfl ?_
  refine x_iconst C (v := (0 : Int32)) (by decide) (dkAt dk_L_valueAction 1 rfl) 2 rfl ?_
  refine x_aload_n C rfl rfl (dkAt dk_L_valueAction 2 rfl) 3 rfl ?_
  refine x_iload_n C rfl rfl (dkAt dk_L_valueAction 3 rfl) 4 rfl ?_
  refine x_iload_n C rfl rfl (dkAt dk_L_valueAction 4 rfl) 5 rfl ?_
  refine h_cVi C hf (fun r hr => c_X11_valueAction hN hr) mw_X11_valueAction ln_RL_110 mi_X11_valueAction (hN.rc (ci := 11) sh0 rc11) (ro_of (by decide) (by decide) (by decide) (by decide)) rfl rfl (Nat.le_of_ble_eq_true rfl) (dkAt dk_L_valueAction 5 rfl) 8 rfl 3 18 rfl rfl (fun v1 M2 hf => ?_) (fun e4 M5 hf => ?_)
  · refine x_i2l C (dkAt dk_L_valueAction 6 rfl) 9 rfl ?_
    refine x_last C (hN.sh sh124) (dkAt dk_L_valueAction 7 rfl) 10 rfl hf (fun M3 hf => ?_)
    refine x_goto C 25 (dkAt dk_L_valueAction 8 rfl) (by decide) ?_
    refine x_iconst C (v := (0 : Int32)) (by decide) (dkAt dk_L_valueAction 18 rfl) 26 rfl ?_
    exact x_iret C E hf (by decide) (by decide) (dkAt dk_L_valueAction 19 rfl)
  · refine if_then hf (fun hE hf => ?_) (fun hE hf => ?_)
    · subst hE
      refine x_catch C hC hT [] ⟨0, 10, 13, 21⟩ [⟨0, 10, 17, 13⟩, ⟨0, 10, 21, 15⟩] rfl (fun _ h => nomatch h) (by decide) (by decide) (by decide) clk0 ckk0 (fun q6 => ?_)
      refine x_astore C (L1 := [some (.ref (wad Γ 0)), some (.int p1), some (.int p2), some (.ref (wad Γ 124)), some (.ref q6)]) (dkAt dk_L_valueAction 9 rfl) 15 rfl (by decide) rfl ?_
      refine x_iconst C (v := (1 : Int32)) (by decide) (dkAt dk_L_valueAction 10 rfl) 16 rfl ?_
      exact x_iret C E hf (by decide) (by decide) (dkAt dk_L_valueAction 11 rfl)
    · refine if_then hf (fun hE hf => ?_) (fun hE hf => ?_)
      · subst hE
        refine x_catch C hC hT [⟨0, 10, 13, 21⟩] ⟨0, 10, 17, 13⟩ [⟨0, 10, 21, 15⟩] rfl (List.forall_mem_cons.mpr ⟨⟨by decide, 0, by decide, by decide, clk0⟩, (fun _ h => nomatch h)⟩) (by decide) (by decide) (by decide) clk1 ckk1 (fun q7 => ?_)
        refine x_astore C (L1 := [some (.ref (wad Γ 0)), some (.int p1), some (.int p2), some (.ref (wad Γ 124)), some (.ref q7)]) (dkAt dk_L_valueAction 12 rfl) 19 rfl (by decide) rfl ?_
        refine x_iconst C (v := (2 : Int32)) (by decide) (dkAt dk_L_valueAction 13 rfl) 20 rfl ?_
        exact x_iret C E hf (by decide) (by decide) (dkAt dk_L_valueAction 14 rfl)
      · refine if_then hf (fun hE hf => ?_) (fun hE hf => ?_)
        · subst hE
          refine x_catch C hC hT [⟨0, 10, 13, 21⟩, ⟨0, 10, 17, 13⟩] ⟨0, 10, 21, 15⟩ [] rfl (List.forall_mem_cons.mpr ⟨⟨by decide, 0, by decide, by decide, clk0⟩, (List.forall_mem_cons.mpr ⟨⟨by decide, 1, by decide, by decide, clk1⟩, (fun _ h => nomatch h)⟩)⟩) (by decide) (by decide) (by decide) clk2 ckk2 (fun q8 => ?_)
          refine x_astore C (L1 := [some (.ref (wad Γ 0)), some (.int p1), some (.int p2), some (.ref (wad Γ 124)), some (.ref q8)]) (dkAt dk_L_valueAction 15 rfl) 23 rfl (by decide) rfl ?_
          refine x_iconst C (v := (3 : Int32)) (by decide) (dkAt dk_L_valueAction 16 rfl) 24 rfl ?_
          exact x_iret C E hf (by decide) (by decide) (dkAt dk_L_valueAction 17 rfl)
        · exact nomatch hf
def f_L_bestGain (Z : Nat) (M : Mem)  : Option (Int32 × Mem) :=
  clT (f_X11_bestGain Z M) (fun v1 M2 => wrL M2 124 1 (0 : Int32) v1 (fun M3 => some ((0 : Int32), M3))) (fun e4 M5 => (if e4 = 0 then some ((1 : Int32), M5) else none))
set_option maxRecDepth 100000 in
theorem c_L_bestGain {Γ : WC} (hN : HN Γ) (hC : NC Γ) {Z : Nat} {M : Mem}  {rM : Int32 × Mem}  (hf : f_L_bestGain Z M  = some rM) : CtW Γ yL_bestGain cL_bestGain 3 (some .int) [(0, 7, 10, 21)] (rmL 8 1 6) [.ref (wad Γ 0), .ref (wad Γ 124)] M (some (.int rM.1)) rM.2 := by
  refine mkW hN.1 (own := RL) rfl (by decide) (Nat.le_of_ble_eq_true rfl) (fun X C hT E => ?_)
  change G Γ X M 0 0 [some (.ref (wad Γ 0)), some (.ref (wad Γ 124))] [] 0
  unfold f_L_bestGain at hf
  refine x_aload_n C rfl rfl (dkAt dk_L_bestGain 0 rfl) 1 rfl ?_
  refine x_iconst C (v := (0 : Int32)) (by decide) (dkAt dk_L_bestGain 1 rfl) 2 rfl ?_
  refine x_aload_n C rfl rfl (dkAt dk_L_bestGain 2 rfl) 3 rfl ?_
  refine h_cVl C hf (fun r hr => c_X11_bestGain hN hr) mw_X11_bestGain ln_RL_113 mi_X11_bestGain (hN.rc (ci := 11) sh0 rc11) (ro_of (by decide) (by decide) (by decide) (by decide)) rfl rfl (Nat.le_of_ble_eq_true rfl) (dkAt dk_L_bestGain 3 rfl) 6 rfl 1 6 rfl rfl (fun v1 M2 hf => ?_) (fun e4 M5 hf => ?_)
  · refine x_last C (hN.sh sh124) (dkAt dk_L_bestGain 4 rfl) 7 rfl hf (fun M3 hf => ?_)
    refine x_goto C 13 (dkAt dk_L_bestGain 5 rfl) (by decide) ?_
    refine x_iconst C (v := (0 : Int32)) (by decide) (dkAt dk_L_bestGain 9 rfl) 14 rfl ?_
    exact x_iret C E hf (by decide) (by decide) (dkAt dk_L_bestGain 10 rfl)
  · refine if_then hf (fun hE hf => ?_) (fun hE hf => ?_)
    · subst hE
      refine x_catch C hC hT [] ⟨0, 7, 10, 21⟩ [] rfl (fun _ h => nomatch h) (by decide) (by decide) (by decide) clk0 ckk0 (fun q6 => ?_)
      refine x_astore_n C (L1 := [some (.ref (wad Γ 0)), some (.ref (wad Γ 124)), some (.ref q6)]) (dkAt dk_L_bestGain 6 rfl) 11 rfl rfl (by decide) rfl ?_
      refine x_iconst C (v := (1 : Int32)) (by decide) (dkAt dk_L_bestGain 7 rfl) 12 rfl ?_
      exact x_iret C E hf (by decide) (by decide) (dkAt dk_L_bestGain 8 rfl)
    · exact nomatch hf
def f_L_bestAction (Z : Nat) (M : Mem) (p1 : Int32) : Option (Int32 × Mem) :=
  clT (f_X11_bestAction Z M p1) (fun v1 M2 => wrL M2 124 1 (0 : Int32) v1.toInt64 (fun M3 => some ((0 : Int32), M3))) (fun e4 M5 => (if e4 = 0 then some ((1 : Int32), M5) else (if e4 = 1 then some ((2 : Int32), M5) else none)))
set_option maxRecDepth 100000 in
theorem c_L_bestAction {Γ : WC} (hN : HN Γ) (hC : NC Γ) {Z : Nat} {M : Mem} {p1 : Int32} {rM : Int32 × Mem}  (hf : f_L_bestAction Z M p1 = some rM) : CtW Γ yL_bestAction cL_bestAction 4 (some .int) [(0, 9, 12, 21), (0, 9, 15, 13)] (rmL 9 2 12) [.ref (wad Γ 0), .int p1, .ref (wad Γ 124)] M (some (.int rM.1)) rM.2 := by
  refine mkW hN.1 (own := RL) rfl (by decide) (Nat.le_of_ble_eq_true rfl) (fun X C hT E => ?_)
  change G Γ X M 0 0 [some (.ref (wad Γ 0)), some (.int p1), some (.ref (wad Γ 124))] [] 0
  unfold f_L_bestAction at hf
  refine x_aload_n C rfl rfl (dkAt dk_L_bestAction 0 rfl) 1 rfl ?_
  refine x_iconst C (v := (0 : Int32)) (by decide) (dkAt dk_L_bestAction 1 rfl) 2 rfl ?_
  refine x_aload_n C rfl rfl (dkAt dk_L_bestAction 2 rfl) 3 rfl ?_
  refine x_iload_n C rfl rfl (dkAt dk_L_bestAction 3 rfl) 4 rfl ?_
  refine h_cVi C hf (fun r hr => c_X11_bestAction hN hr) mw_X11_bestAction ln_RL_116 mi_X11_bestAction (hN.rc (ci := 11) sh0 rc11) (ro_of (by decide) (by decide) (by decide) (by decide)) rfl rfl (Nat.le_of_ble_eq_true rfl) (dkAt dk_L_bestAction 4 rfl) 7 rfl 2 12 rfl rfl (fun v1 M2 hf => ?_) (fun e4 M5 hf => ?_)
  · refine x_i2l C (dkAt dk_L_bestAction 5 rfl) 8 rfl ?_
    refine x_last C (hN.sh sh124) (dkAt dk_L_bestAction 6 rfl) 9 rfl hf (fun M3 hf => ?_)
    refine x_goto C 18 (dkAt dk_L_bestAction 7 rfl) (by decide) ?_
    refine x_iconst C (v := (0 : Int32)) (by decide) (dkAt dk_L_bestAction 14 rfl) 19 rfl ?_
    exact x_iret C E hf (by decide) (by decide) (dkAt dk_L_bestAction 15 rfl)
  · refine if_then hf (fun hE hf => ?_) (fun hE hf => ?_)
    · subst hE
      refine x_catch C hC hT [] ⟨0, 9, 12, 21⟩ [⟨0, 9, 15, 13⟩] rfl (fun _ h => nomatch h) (by decide) (by decide) (by decide) clk0 ckk0 (fun q6 => ?_)
      refine x_astore_n C (L1 := [some (.ref (wad Γ 0)), some (.int p1), some (.ref (wad Γ 124)), some (.ref q6)]) (dkAt dk_L_bestAction 8 rfl) 13 rfl rfl (by decide) rfl ?_
      refine x_iconst C (v := (1 : Int32)) (by decide) (dkAt dk_L_bestAction 9 rfl) 14 rfl ?_
      exact x_iret C E hf (by decide) (by decide) (dkAt dk_L_bestAction 10 rfl)
    · refine if_then hf (fun hE hf => ?_) (fun hE hf => ?_)
      · subst hE
        refine x_catch C hC hT [⟨0, 9, 12, 21⟩] ⟨0, 9, 15, 13⟩ [] rfl (List.forall_mem_cons.mpr ⟨⟨by decide, 0, by decide, by decide, clk0⟩, (fun _ h => nomatch h)⟩) (by decide) (by decide) (by decide) clk1 ckk1 (fun q7 => ?_)
        refine x_astore_n C (L1 := [some (.ref (wad Γ 0)), some (.int p1), some (.ref (wad Γ 124)), some (.ref q7)]) (dkAt dk_L_bestAction 11 rfl) 16 rfl rfl (by decide) rfl ?_
        refine x_iconst C (v := (2 : Int32)) (by decide) (dkAt dk_L_bestAction 12 rfl) 17 rfl ?_
        exact x_iret C E hf (by decide) (by decide) (dkAt dk_L_bestAction 13 rfl)
      · exact nomatch hf
def f_L_pureSets (Z : Nat) (M : Mem)  : Option (Int32 × Mem) :=
  clT (f_X11_pureSets Z M) (fun v1 M2 => wrL M2 124 1 (0 : Int32) v1.toInt64 (fun M3 => some ((0 : Int32), M3))) (fun e4 M5 => (if e4 = 0 then some ((1 : Int32), M5) else none))
set_option maxRecDepth 100000 in
theorem c_L_pureSets {Γ : WC} (hN : HN Γ) (hC : NC Γ) {Z : Nat} {M : Mem}  {rM : Int32 × Mem}  (hf : f_L_pureSets Z M  = some rM) : CtW Γ yL_pureSets cL_pureSets 3 (some .int) [(0, 8, 11, 21)] (rmL 8 1 6) [.ref (wad Γ 0), .ref (wad Γ 124)] M (some (.int rM.1)) rM.2 := by
  refine mkW hN.1 (own := RL) rfl (by decide) (Nat.le_of_ble_eq_true rfl) (fun X C hT E => ?_)
  change G Γ X M 0 0 [some (.ref (wad Γ 0)), some (.ref (wad Γ 124))] [] 0
  unfold f_L_pureSets at hf
  refine x_aload_n C rfl rfl (dkAt dk_L_pureSets 0 rfl) 1 rfl ?_
  refine x_iconst C (v := (0 : Int32)) (by decide) (dkAt dk_L_pureSets 1 rfl) 2 rfl ?_
  refine x_aload_n C rfl rfl (dkAt dk_L_pureSets 2 rfl) 3 rfl ?_
  refine h_cVi C hf (fun r hr => c_X11_pureSets hN hr) mw_X11_pureSets ln_RL_119 mi_X11_pureSets (hN.rc (ci := 11) sh0 rc11) (ro_of (by decide) (by decide) (by decide) (by decide)) rfl rfl (Nat.le_of_ble_eq_true rfl) (dkAt dk_L_pureSets 3 rfl) 6 rfl 1 6 rfl rfl (fun v1 M2 hf => ?_) (fun e4 M5 hf => ?_)
  · refine x_i2l C (dkAt dk_L_pureSets 4 rfl) 7 rfl ?_
    refine x_last C (hN.sh sh124) (dkAt dk_L_pureSets 5 rfl) 8 rfl hf (fun M3 hf => ?_)
    refine x_goto C 14 (dkAt dk_L_pureSets 6 rfl) (by decide) ?_
    refine x_iconst C (v := (0 : Int32)) (by decide) (dkAt dk_L_pureSets 10 rfl) 15 rfl ?_
    exact x_iret C E hf (by decide) (by decide) (dkAt dk_L_pureSets 11 rfl)
  · refine if_then hf (fun hE hf => ?_) (fun hE hf => ?_)
    · subst hE
      refine x_catch C hC hT [] ⟨0, 8, 11, 21⟩ [] rfl (fun _ h => nomatch h) (by decide) (by decide) (by decide) clk0 ckk0 (fun q6 => ?_)
      refine x_astore_n C (L1 := [some (.ref (wad Γ 0)), some (.ref (wad Γ 124)), some (.ref q6)]) (dkAt dk_L_pureSets 7 rfl) 12 rfl rfl (by decide) rfl ?_
      refine x_iconst C (v := (1 : Int32)) (by decide) (dkAt dk_L_pureSets 8 rfl) 13 rfl ?_
      exact x_iret C E hf (by decide) (by decide) (dkAt dk_L_pureSets 9 rfl)
    · exact nomatch hf
def f_L_worth (Z : Nat) (M : Mem) (p1 : Int32) (p2 : Int32) : Option (Int32 × Mem) :=
  clT (f_X11_worth Z M p1 p2) (fun v1 M2 => wrL M2 124 1 (0 : Int32) v1 (fun M3 => some ((0 : Int32), M3))) (fun e4 M5 => (if e4 = 0 then some ((1 : Int32), M5) else (if e4 = 1 then some ((2 : Int32), M5) else (if e4 = 2 then some ((3 : Int32), M5) else none))))
set_option maxRecDepth 100000 in
theorem c_L_worth {Γ : WC} (hN : HN Γ) (hC : NC Γ) {Z : Nat} {M : Mem} {p1 : Int32} {p2 : Int32} {rM : Int32 × Mem}  (hf : f_L_worth Z M p1 p2 = some rM) : CtW Γ yL_worth cL_worth 5 (some .int) [(0, 9, 12, 21), (0, 9, 16, 13), (0, 9, 20, 15)] (rmL 9 3 18) [.ref (wad Γ 0), .int p1, .int p2, .ref (wad Γ 124)] M (some (.int rM.1)) rM.2 := by
  refine mkW hN.1 (own := RL) rfl (by decide) (Nat.le_of_ble_eq_true rfl) (fun X C hT E => ?_)
  change G Γ X M 0 0 [some (.ref (wad Γ 0)), some (.int p1), some (.int p2), some (.ref (wad Γ 124))] [] 0
  unfold f_L_worth at hf
  refine x_aload_n C rfl rfl (dkAt dk_L_worth 0 rfl) 1 rfl ?_
  refine x_iconst C (v := (0 : Int32)) (by decide) (dkAt dk_L_worth 1 rfl) 2 rfl ?_
  refine x_aload_n C rfl rfl (dkAt dk_L_worth 2 rfl) 3 rfl ?_
  refine x_iload_n C rfl rfl (dkAt dk_L_worth 3 rfl) 4 rfl ?_
  refine x_iload_n C rfl rfl (dkAt dk_L_worth 4 rfl) 5 rfl ?_
  refine h_cVl C hf (fun r hr => c_X11_worth hN hr) mw_X11_worth ln_RL_122 mi_X11_worth (hN.rc (ci := 11) sh0 rc11) (ro_of (by decide) (by decide) (by decide) (by decide)) rfl rfl (Nat.le_of_ble_eq_true rfl) (dkAt dk_L_worth 5 rfl) 8 rfl 3 18 rfl rfl (fun v1 M2 hf => ?_) (fun e4 M5 hf => ?_)
  · refine x_last C (hN.sh sh124) (dkAt dk_L_worth 6 rfl) 9 rfl hf (fun M3 hf => ?_)
    refine x_goto C 24 (dkAt dk_L_worth 7 rfl) (by decide) ?_
    refine x_iconst C (v := (0 : Int32)) (by decide) (dkAt dk_L_worth 17 rfl) 25 rfl ?_
    exact x_iret C E hf (by decide) (by decide) (dkAt dk_L_worth 18 rfl)
  · refine if_then hf (fun hE hf => ?_) (fun hE hf => ?_)
    · subst hE
      refine x_catch C hC hT [] ⟨0, 9, 12, 21⟩ [⟨0, 9, 16, 13⟩, ⟨0, 9, 20, 15⟩] rfl (fun _ h => nomatch h) (by decide) (by decide) (by decide) clk0 ckk0 (fun q6 => ?_)
      refine x_astore C (L1 := [some (.ref (wad Γ 0)), some (.int p1), some (.int p2), some (.ref (wad Γ 124)), some (.ref q6)]) (dkAt dk_L_worth 8 rfl) 14 rfl (by decide) rfl ?_
      refine x_iconst C (v := (1 : Int32)) (by decide) (dkAt dk_L_worth 9 rfl) 15 rfl ?_
      exact x_iret C E hf (by decide) (by decide) (dkAt dk_L_worth 10 rfl)
    · refine if_then hf (fun hE hf => ?_) (fun hE hf => ?_)
      · subst hE
        refine x_catch C hC hT [⟨0, 9, 12, 21⟩] ⟨0, 9, 16, 13⟩ [⟨0, 9, 20, 15⟩] rfl (List.forall_mem_cons.mpr ⟨⟨by decide, 0, by decide, by decide, clk0⟩, (fun _ h => nomatch h)⟩) (by decide) (by decide) (by decide) clk1 ckk1 (fun q7 => ?_)
        refine x_astore C (L1 := [some (.ref (wad Γ 0)), some (.int p1), some (.int p2), some (.ref (wad Γ 124)), some (.ref q7)]) (dkAt dk_L_worth 11 rfl) 18 rfl (by decide) rfl ?_
        refine x_iconst C (v := (2 : Int32)) (by decide) (dkAt dk_L_worth 12 rfl) 19 rfl ?_
        exact x_iret C E hf (by decide) (by decide) (dkAt dk_L_worth 13 rfl)
      · refine if_then hf (fun hE hf => ?_) (fun hE hf => ?_)
        · subst hE
          refine x_catch C hC hT [⟨0, 9, 12, 21⟩, ⟨0, 9, 16, 13⟩] ⟨0, 9, 20, 15⟩ [] rfl (List.forall_mem_cons.mpr ⟨⟨by decide, 0, by decide, by decide, clk0⟩, (List.forall_mem_cons.mpr ⟨⟨by decide, 1, by decide, by decide, clk1⟩, (fun _ h => nomatch h)⟩)⟩) (by decide) (by decide) (by decide) clk2 ckk2 (fun q8 => ?_)
          refine x_astore C (L1 := [some (.ref (wad Γ 0)), some (.int p1), some (.int p2), some (.ref (wad Γ 124)), some (.ref q8)]) (dkAt dk_L_worth 14 rfl) 22 rfl (by decide) rfl ?_
          refine x_iconst C (v := (3 : Int32)) (by decide) (dkAt dk_L_worth 15 rfl) 23 rfl ?_
          exact x_iret C E hf (by decide) (by decide) (dkAt dk_L_worth 16 rfl)
        · exact nomatch hf
def f_L_leastLimit (Z : Nat) (M : Mem) (p1 : Int32) : Option (Int32 × Mem) :=
  clT (f_X11_leastLimit Z M p1) (fun v1 M2 => wrL M2 124 1 (0 : Int32) v1.toInt64 (fun M3 => some ((0 : Int32), M3))) (fun e4 M5 => (if e4 = 0 then some ((1 : Int32), M5) else (if e4 = 1 then some ((2 : Int32), M5) else none)))
set_option maxRecDepth 100000 in
theorem c_L_leastLimit {Γ : WC} (hN : HN Γ) (hC : NC Γ) {Z : Nat} {M : Mem} {p1 : Int32} {rM : Int32 × Mem}  (hf : f_L_leastLimit Z M p1 = some rM) : CtW Γ yL_leastLimit cL_leastLimit 4 (some .int) [(0, 9, 12, 21), (0, 9, 15, 13)] (rmL 9 2 12) [.ref (wad Γ 0), .int p1, .ref (wad Γ 124)] M (some (.int rM.1)) rM.2 := by
  refine mkW hN.1 (own := RL) rfl (by decide) (Nat.le_of_ble_eq_true rfl) (fun X C hT E => ?_)
  change G Γ X M 0 0 [some (.ref (wad Γ 0)), some (.int p1), some (.ref (wad Γ 124))] [] 0
  unfold f_L_leastLimit at hf
  refine x_aload_n C rfl rfl (dkAt dk_L_leastLimit 0 rfl) 1 rfl ?_
  refine x_iconst C (v := (0 : Int32)) (by decide) (dkAt dk_L_leastLimit 1 rfl) 2 rfl ?_
  refine x_aload_n C rfl rfl (dkAt dk_L_leastLimit 2 rfl) 3 rfl ?_
  refine x_iload_n C rfl rfl (dkAt dk_L_leastLimit 3 rfl) 4 rfl ?_
  refine h_cVi C hf (fun r hr => c_X11_leastLimit hN hr) mw_X11_leastLimit ln_RL_125 mi_X11_leastLimit (hN.rc (ci := 11) sh0 rc11) (ro_of (by decide) (by decide) (by decide) (by decide)) rfl rfl (Nat.le_of_ble_eq_true rfl) (dkAt dk_L_leastLimit 4 rfl) 7 rfl 2 12 rfl rfl (fun v1 M2 hf => ?_) (fun e4 M5 hf => ?_)
  · refine x_i2l C (dkAt dk_L_leastLimit 5 rfl) 8 rfl ?_
    refine x_last C (hN.sh sh124) (dkAt dk_L_leastLimit 6 rfl) 9 rfl hf (fun M3 hf => ?_)
    refine x_goto C 18 (dkAt dk_L_leastLimit 7 rfl) (by decide) ?_
    refine x_iconst C (v := (0 : Int32)) (by decide) (dkAt dk_L_leastLimit 14 rfl) 19 rfl ?_
    exact x_iret C E hf (by decide) (by decide) (dkAt dk_L_leastLimit 15 rfl)
  · refine if_then hf (fun hE hf => ?_) (fun hE hf => ?_)
    · subst hE
      refine x_catch C hC hT [] ⟨0, 9, 12, 21⟩ [⟨0, 9, 15, 13⟩] rfl (fun _ h => nomatch h) (by decide) (by decide) (by decide) clk0 ckk0 (fun q6 => ?_)
      refine x_astore_n C (L1 := [some (.ref (wad Γ 0)), some (.int p1), some (.ref (wad Γ 124)), some (.ref q6)]) (dkAt dk_L_leastLimit 8 rfl) 13 rfl rfl (by decide) rfl ?_
      refine x_iconst C (v := (1 : Int32)) (by decide) (dkAt dk_L_leastLimit 9 rfl) 14 rfl ?_
      exact x_iret C E hf (by decide) (by decide) (dkAt dk_L_leastLimit 10 rfl)
    · refine if_then hf (fun hE hf => ?_) (fun hE hf => ?_)
      · subst hE
        refine x_catch C hC hT [⟨0, 9, 12, 21⟩] ⟨0, 9, 15, 13⟩ [] rfl (List.forall_mem_cons.mpr ⟨⟨by decide, 0, by decide, by decide, clk0⟩, (fun _ h => nomatch h)⟩) (by decide) (by decide) (by decide) clk1 ckk1 (fun q7 => ?_)
        refine x_astore_n C (L1 := [some (.ref (wad Γ 0)), some (.int p1), some (.ref (wad Γ 124)), some (.ref q7)]) (dkAt dk_L_leastLimit 11 rfl) 16 rfl rfl (by decide) rfl ?_
        refine x_iconst C (v := (2 : Int32)) (by decide) (dkAt dk_L_leastLimit 12 rfl) 17 rfl ?_
        exact x_iret C E hf (by decide) (by decide) (dkAt dk_L_leastLimit 13 rfl)
      · exact nomatch hf
def f_L_bestWeight (Z : Nat) (M : Mem) (p1 : Int32) (p2 : Int32) (p3 : Int32) : Option (Int32 × Mem) :=
  clT (f_X11_bestWeight Z M p1 p2 p3) (fun v1 M2 => wrL M2 124 1 (0 : Int32) v1.toInt64 (fun M3 => some ((0 : Int32), M3))) (fun e4 M5 => (if e4 = 0 then some ((1 : Int32), M5) else (if e4 = 1 then some ((2 : Int32), M5) else (if e4 = 2 then some ((3 : Int32), M5) else none))))
set_option maxRecDepth 100000 in
theorem c_L_bestWeight {Γ : WC} (hN : HN Γ) (hC : NC Γ) {Z : Nat} {M : Mem} {p1 : Int32} {p2 : Int32} {p3 : Int32} {rM : Int32 × Mem}  (hf : f_L_bestWeight Z M p1 p2 p3 = some rM) : CtW Γ yL_bestWeight cL_bestWeight 6 (some .int) [(0, 12, 15, 21), (0, 12, 19, 13), (0, 12, 23, 15)] (rmL 10 7 42) [.ref (wad Γ 0), .int p1, .int p2, .int p3, .ref (wad Γ 124)] M (some (.int rM.1)) rM.2 := by
  refine mkW hN.1 (own := RL) rfl (by decide) (Nat.le_of_ble_eq_true rfl) (fun X C hT E => ?_)
  change G Γ X M 0 0 [some (.ref (wad Γ 0)), some (.int p1), some (.int p2), some (.int p3), some (.ref (wad Γ 124))] [] 0
  unfold f_L_bestWeight at hf
  refine x_aload C rfl (dkAt dk_L_bestWeight 0 rfl) 2 rfl ?_
  refine x_iconst C (v := (0 : Int32)) (by decide) (dkAt dk_L_bestWeight 1 rfl) 3 rfl ?_
  refine x_aload_n C rfl rfl (dkAt dk_L_bestWeight 2 rfl) 4 rfl ?_
  refine x_iload_n C rfl rfl (dkAt dk_L_bestWeight 3 rfl) 5 rfl ?_
  refine x_iload_n C rfl rfl (dkAt dk_L_bestWeight 4 rfl) 6 rfl ?_
  refine x_iload_n C rfl rfl (dkAt dk_L_bestWeight 5 rfl) 7 rfl ?_
  refine h_cVi C hf (fun r hr => c_X11_bestWeight hN hr) mw_X11_bestWeight ln_RL_128 mi_X11_bestWeight (hN.rc (ci := 11) sh0 rc11) (ro_of (by decide) (by decide) (by decide) (by decide)) rfl rfl (Nat.le_of_ble_eq_true rfl) (dkAt dk_L_bestWeight 6 rfl) 10 rfl 7 42 rfl rfl (fun v1 M2 hf => ?_) (fun e4 M5 hf => ?_)
  · refine x_i2l C (dkAt dk_L_bestWeight 7 rfl) 11 rfl ?_
    refine x_last C (hN.sh sh124) (dkAt dk_L_bestWeight 8 rfl) 12 rfl hf (fun M3 hf => ?_)
    refine x_goto C 27 (dkAt dk_L_bestWeight 9 rfl) (by decide) ?_
    refine x_iconst C (v := (0 : Int32)) (by decide) (dkAt dk_L_bestWeight 19 rfl) 28 rfl ?_
    exact x_iret C E hf (by decide) (by decide) (dkAt dk_L_bestWeight 20 rfl)
  · refine if_then hf (fun hE hf => ?_) (fun hE hf => ?_)
    · subst hE
      refine x_catch C hC hT [] ⟨0, 12, 15, 21⟩ [⟨0, 12, 19, 13⟩, ⟨0, 12, 23, 15⟩] rfl (fun _ h => nomatch h) (by decide) (by decide) (by decide) clk0 ckk0 (fun q6 => ?_)
      refine x_astore C (L1 := [some (.ref (wad Γ 0)), some (.int p1), some (.int p2), some (.int p3), some (.ref (wad Γ 124)), some (.ref q6)]) (dkAt dk_L_bestWeight 10 rfl) 17 rfl (by decide) rfl ?_
      refine x_iconst C (v := (1 : Int32)) (by decide) (dkAt dk_L_bestWeight 11 rfl) 18 rfl ?_
      exact x_iret C E hf (by decide) (by decide) (dkAt dk_L_bestWeight 12 rfl)
    · refine if_then hf (fun hE hf => ?_) (fun hE hf => ?_)
      · subst hE
        refine x_catch C hC hT [⟨0, 12, 15, 21⟩] ⟨0, 12, 19, 13⟩ [⟨0, 12, 23, 15⟩] rfl (List.forall_mem_cons.mpr ⟨⟨by decide, 0, by decide, by decide, clk0⟩, (fun _ h => nomatch h)⟩) (by decide) (by decide) (by decide) clk1 ckk1 (fun q7 => ?_)
        refine x_astore C (L1 := [some (.ref (wad Γ 0)), some (.int p1), some (.int p2), some (.int p3), some (.ref (wad Γ 124)), some (.ref q7)]) (dkAt dk_L_bestWeight 13 rfl) 21 rfl (by decide) rfl ?_
        refine x_iconst C (v := (2 : Int32)) (by decide) (dkAt dk_L_bestWeight 14 rfl) 22 rfl ?_
        exact x_iret C E hf (by decide) (by decide) (dkAt dk_L_bestWeight 15 rfl)
      · refine if_then hf (fun hE hf => ?_) (fun hE hf => ?_)
        · subst hE
          refine x_catch C hC hT [⟨0, 12, 15, 21⟩, ⟨0, 12, 19, 13⟩] ⟨0, 12, 23, 15⟩ [] rfl (List.forall_mem_cons.mpr ⟨⟨by decide, 0, by decide, by decide, clk0⟩, (List.forall_mem_cons.mpr ⟨⟨by decide, 1, by decide, by decide, clk1⟩, (fun _ h => nomatch h)⟩)⟩) (by decide) (by decide) (by decide) clk2 ckk2 (fun q8 => ?_)
          refine x_astore C (L1 := [some (.ref (wad Γ 0)), some (.int p1), some (.int p2), some (.int p3), some (.ref (wad Γ 124)), some (.ref q8)]) (dkAt dk_L_bestWeight 16 rfl) 25 rfl (by decide) rfl ?_
          refine x_iconst C (v := (3 : Int32)) (by decide) (dkAt dk_L_bestWeight 17 rfl) 26 rfl ?_
          exact x_iret C E hf (by decide) (by decide) (dkAt dk_L_bestWeight 18 rfl)
        · exact nomatch hf
def f_L_seed (Z : Nat) (M : Mem)  : Option (Int32 × Mem) :=
  clT (f_X11_seed Z M) (fun v1 M2 => wrL M2 124 1 (0 : Int32) v1.toInt64 (fun M3 => some ((0 : Int32), M3))) (fun e4 M5 => (if e4 = 0 then some ((1 : Int32), M5) else none))
set_option maxRecDepth 100000 in
theorem c_L_seed {Γ : WC} (hN : HN Γ) (hC : NC Γ) {Z : Nat} {M : Mem}  {rM : Int32 × Mem}  (hf : f_L_seed Z M  = some rM) : CtW Γ yL_seed cL_seed 3 (some .int) [(0, 8, 11, 21)] (rmL 8 1 6) [.ref (wad Γ 0), .ref (wad Γ 124)] M (some (.int rM.1)) rM.2 := by
  refine mkW hN.1 (own := RL) rfl (by decide) (Nat.le_of_ble_eq_true rfl) (fun X C hT E => ?_)
  change G Γ X M 0 0 [some (.ref (wad Γ 0)), some (.ref (wad Γ 124))] [] 0
  unfold f_L_seed at hf
  refine x_aload_n C rfl rfl (dkAt dk_L_seed 0 rfl) 1 rfl ?_
  refine x_iconst C (v := (0 : Int32)) (by decide) (dkAt dk_L_seed 1 rfl) 2 rfl ?_
  refine x_aload_n C rfl rfl (dkAt dk_L_seed 2 rfl) 3 rfl ?_
  refine h_cVi C hf (fun r hr => c_X11_seed hN hr) mw_X11_seed ln_RL_131 mi_X11_seed (hN.rc (ci := 11) sh0 rc11) (ro_of (by decide) (by decide) (by decide) (by decide)) rfl rfl (Nat.le_of_ble_eq_true rfl) (dkAt dk_L_seed 3 rfl) 6 rfl 1 6 rfl rfl (fun v1 M2 hf => ?_) (fun e4 M5 hf => ?_)
  · refine x_i2l C (dkAt dk_L_seed 4 rfl) 7 rfl ?_
    refine x_last C (hN.sh sh124) (dkAt dk_L_seed 5 rfl) 8 rfl hf (fun M3 hf => ?_)
    refine x_goto C 14 (dkAt dk_L_seed 6 rfl) (by decide) ?_
    refine x_iconst C (v := (0 : Int32)) (by decide) (dkAt dk_L_seed 10 rfl) 15 rfl ?_
    exact x_iret C E hf (by decide) (by decide) (dkAt dk_L_seed 11 rfl)
  · refine if_then hf (fun hE hf => ?_) (fun hE hf => ?_)
    · subst hE
      refine x_catch C hC hT [] ⟨0, 8, 11, 21⟩ [] rfl (fun _ h => nomatch h) (by decide) (by decide) (by decide) clk0 ckk0 (fun q6 => ?_)
      refine x_astore_n C (L1 := [some (.ref (wad Γ 0)), some (.ref (wad Γ 124)), some (.ref q6)]) (dkAt dk_L_seed 7 rfl) 12 rfl rfl (by decide) rfl ?_
      refine x_iconst C (v := (1 : Int32)) (by decide) (dkAt dk_L_seed 8 rfl) 13 rfl ?_
      exact x_iret C E hf (by decide) (by decide) (dkAt dk_L_seed 9 rfl)
    · exact nomatch hf
def f_L_walked (Z : Nat) (M : Mem) (p1 : Int32) : Option (Int32 × Mem) :=
  clT (f_X11_walked Z M p1) (fun v1 M2 => wrL M2 124 1 (0 : Int32) v1.toInt64 (fun M3 => some ((0 : Int32), M3))) (fun e4 M5 => (if e4 = 0 then some ((1 : Int32), M5) else (if e4 = 2 then some ((2 : Int32), M5) else none)))
set_option maxRecDepth 100000 in
theorem c_L_walked {Γ : WC} (hN : HN Γ) (hC : NC Γ) {Z : Nat} {M : Mem} {p1 : Int32} {rM : Int32 × Mem}  (hf : f_L_walked Z M p1 = some rM) : CtW Γ yL_walked cL_walked 4 (some .int) [(0, 9, 12, 21), (0, 9, 15, 15)] (rmL 9 3 18) [.ref (wad Γ 0), .int p1, .ref (wad Γ 124)] M (some (.int rM.1)) rM.2 := by
  refine mkW hN.1 (own := RL) rfl (by decide) (Nat.le_of_ble_eq_true rfl) (fun X C hT E => ?_)
  change G Γ X M 0 0 [some (.ref (wad Γ 0)), some (.int p1), some (.ref (wad Γ 124))] [] 0
  unfold f_L_walked at hf
  refine x_aload_n C rfl rfl (dkAt dk_L_walked 0 rfl) 1 rfl ?_
  refine x_iconst C (v := (0 : Int32)) (by decide) (dkAt dk_L_walked 1 rfl) 2 rfl ?_
  refine x_aload_n C rfl rfl (dkAt dk_L_walked 2 rfl) 3 rfl ?_
  refine x_iload_n C rfl rfl (dkAt dk_L_walked 3 rfl) 4 rfl ?_
  refine h_cVi C hf (fun r hr => c_X11_walked hN hr) mw_X11_walked ln_RL_134 mi_X11_walked (hN.rc (ci := 11) sh0 rc11) (ro_of (by decide) (by decide) (by decide) (by decide)) rfl rfl (Nat.le_of_ble_eq_true rfl) (dkAt dk_L_walked 4 rfl) 7 rfl 3 18 rfl rfl (fun v1 M2 hf => ?_) (fun e4 M5 hf => ?_)
  · refine x_i2l C (dkAt dk_L_walked 5 rfl) 8 rfl ?_
    refine x_last C (hN.sh sh124) (dkAt dk_L_walked 6 rfl) 9 rfl hf (fun M3 hf => ?_)
    refine x_goto C 18 (dkAt dk_L_walked 7 rfl) (by decide) ?_
    refine x_iconst C (v := (0 : Int32)) (by decide) (dkAt dk_L_walked 14 rfl) 19 rfl ?_
    exact x_iret C E hf (by decide) (by decide) (dkAt dk_L_walked 15 rfl)
  · refine if_then hf (fun hE hf => ?_) (fun hE hf => ?_)
    · subst hE
      refine x_catch C hC hT [] ⟨0, 9, 12, 21⟩ [⟨0, 9, 15, 15⟩] rfl (fun _ h => nomatch h) (by decide) (by decide) (by decide) clk0 ckk0 (fun q6 => ?_)
      refine x_astore_n C (L1 := [some (.ref (wad Γ 0)), some (.int p1), some (.ref (wad Γ 124)), some (.ref q6)]) (dkAt dk_L_walked 8 rfl) 13 rfl rfl (by decide) rfl ?_
      refine x_iconst C (v := (1 : Int32)) (by decide) (dkAt dk_L_walked 9 rfl) 14 rfl ?_
      exact x_iret C E hf (by decide) (by decide) (dkAt dk_L_walked 10 rfl)
    · refine if_then hf (fun hE hf => ?_) (fun hE hf => ?_)
      · subst hE
        refine x_catch C hC hT [⟨0, 9, 12, 21⟩] ⟨0, 9, 15, 15⟩ [] rfl (List.forall_mem_cons.mpr ⟨⟨by decide, 0, by decide, by decide, clk0⟩, (fun _ h => nomatch h)⟩) (by decide) (by decide) (by decide) clk2 ckk2 (fun q7 => ?_)
        refine x_astore_n C (L1 := [some (.ref (wad Γ 0)), some (.int p1), some (.ref (wad Γ 124)), some (.ref q7)]) (dkAt dk_L_walked 11 rfl) 16 rfl rfl (by decide) rfl ?_
        refine x_iconst C (v := (2 : Int32)) (by decide) (dkAt dk_L_walked 12 rfl) 17 rfl ?_
        exact x_iret C E hf (by decide) (by decide) (dkAt dk_L_walked 13 rfl)
      · exact nomatch hf
def f_L_walkedBy (Z : Nat) (M : Mem) (p1 : Int32) : Option (Int32 × Mem) :=
  clT (f_X11_walkedBy Z M p1) (fun v1 M2 => wrL M2 124 1 (0 : Int32) v1.toInt64 (fun M3 => some ((0 : Int32), M3))) (fun e4 M5 => (if e4 = 0 then some ((1 : Int32), M5) else (if e4 = 2 then some ((2 : Int32), M5) else none)))
set_option maxRecDepth 100000 in
theorem c_L_walkedBy {Γ : WC} (hN : HN Γ) (hC : NC Γ) {Z : Nat} {M : Mem} {p1 : Int32} {rM : Int32 × Mem}  (hf : f_L_walkedBy Z M p1 = some rM) : CtW Γ yL_walkedBy cL_walkedBy 4 (some .int) [(0, 9, 12, 21), (0, 9, 15, 15)] (rmL 9 3 18) [.ref (wad Γ 0), .int p1, .ref (wad Γ 124)] M (some (.int rM.1)) rM.2 := by
  refine mkW hN.1 (own := RL) rfl (by decide) (Nat.le_of_ble_eq_true rfl) (fun X C hT E => ?_)
  change G Γ X M 0 0 [some (.ref (wad Γ 0)), some (.int p1), some (.ref (wad Γ 124))] [] 0
  unfold f_L_walkedBy at hf
  refine x_aload_n C rfl rfl (dkAt dk_L_walkedBy 0 rfl) 1 rfl ?_
  refine x_iconst C (v := (0 : Int32)) (by decide) (dkAt dk_L_walkedBy 1 rfl) 2 rfl ?_
  refine x_aload_n C rfl rfl (dkAt dk_L_walkedBy 2 rfl) 3 rfl ?_
  refine x_iload_n C rfl rfl (dkAt dk_L_walkedBy 3 rfl) 4 rfl ?_
  refine h_cVi C hf (fun r hr => c_X11_walkedBy hN hr) mw_X11_walkedBy ln_RL_137 mi_X11_walkedBy (hN.rc (ci := 11) sh0 rc11) (ro_of (by decide) (by decide) (by decide) (by decide)) rfl rfl (Nat.le_of_ble_eq_true rfl) (dkAt dk_L_walkedBy 4 rfl) 7 rfl 3 18 rfl rfl (fun v1 M2 hf => ?_) (fun e4 M5 hf => ?_)
  · refine x_i2l C (dkAt dk_L_walkedBy 5 rfl) 8 rfl ?_
    refine x_last C (hN.sh sh124) (dkAt dk_L_walkedBy 6 rfl) 9 rfl hf (fun M3 hf => ?_)
    refine x_goto C 18 (dkAt dk_L_walkedBy 7 rfl) (by decide) ?_
    refine x_iconst C (v := (0 : Int32)) (by decide) (dkAt dk_L_walkedBy 14 rfl) 19 rfl ?_
    exact x_iret C E hf (by decide) (by decide) (dkAt dk_L_walkedBy 15 rfl)
  · refine if_then hf (fun hE hf => ?_) (fun hE hf => ?_)
    · subst hE
      refine x_catch C hC hT [] ⟨0, 9, 12, 21⟩ [⟨0, 9, 15, 15⟩] rfl (fun _ h => nomatch h) (by decide) (by decide) (by decide) clk0 ckk0 (fun q6 => ?_)
      refine x_astore_n C (L1 := [some (.ref (wad Γ 0)), some (.int p1), some (.ref (wad Γ 124)), some (.ref q6)]) (dkAt dk_L_walkedBy 8 rfl) 13 rfl rfl (by decide) rfl ?_
      refine x_iconst C (v := (1 : Int32)) (by decide) (dkAt dk_L_walkedBy 9 rfl) 14 rfl ?_
      exact x_iret C E hf (by decide) (by decide) (dkAt dk_L_walkedBy 10 rfl)
    · refine if_then hf (fun hE hf => ?_) (fun hE hf => ?_)
      · subst hE
        refine x_catch C hC hT [⟨0, 9, 12, 21⟩] ⟨0, 9, 15, 15⟩ [] rfl (List.forall_mem_cons.mpr ⟨⟨by decide, 0, by decide, by decide, clk0⟩, (fun _ h => nomatch h)⟩) (by decide) (by decide) (by decide) clk2 ckk2 (fun q7 => ?_)
        refine x_astore_n C (L1 := [some (.ref (wad Γ 0)), some (.int p1), some (.ref (wad Γ 124)), some (.ref q7)]) (dkAt dk_L_walkedBy 11 rfl) 16 rfl rfl (by decide) rfl ?_
        refine x_iconst C (v := (2 : Int32)) (by decide) (dkAt dk_L_walkedBy 12 rfl) 17 rfl ?_
        exact x_iret C E hf (by decide) (by decide) (dkAt dk_L_walkedBy 13 rfl)
      · exact nomatch hf
def f_L_walkGain (Z : Nat) (M : Mem)  : Option (Int32 × Mem) :=
  clT (f_X11_walkGain Z M) (fun v1 M2 => wrL M2 124 1 (0 : Int32) v1.toInt64 (fun M3 => some ((0 : Int32), M3))) (fun e4 M5 => (if e4 = 0 then some ((1 : Int32), M5) else none))
set_option maxRecDepth 100000 in
theorem c_L_walkGain {Γ : WC} (hN : HN Γ) (hC : NC Γ) {Z : Nat} {M : Mem}  {rM : Int32 × Mem}  (hf : f_L_walkGain Z M  = some rM) : CtW Γ yL_walkGain cL_walkGain 3 (some .int) [(0, 8, 11, 21)] (rmL 9 2 12) [.ref (wad Γ 0), .ref (wad Γ 124)] M (some (.int rM.1)) rM.2 := by
  refine mkW hN.1 (own := RL) rfl (by decide) (Nat.le_of_ble_eq_true rfl) (fun X C hT E => ?_)
  change G Γ X M 0 0 [some (.ref (wad Γ 0)), some (.ref (wad Γ 124))] [] 0
  unfold f_L_walkGain at hf
  refine x_aload_n C rfl rfl (dkAt dk_L_walkGain 0 rfl) 1 rfl ?_
  refine x_iconst C (v := (0 : Int32)) (by decide) (dkAt dk_L_walkGain 1 rfl) 2 rfl ?_
  refine x_aload_n C rfl rfl (dkAt dk_L_walkGain 2 rfl) 3 rfl ?_
  refine h_cVi C hf (fun r hr => c_X11_walkGain hN hr) mw_X11_walkGain ln_RL_140 mi_X11_walkGain (hN.rc (ci := 11) sh0 rc11) (ro_of (by decide) (by decide) (by decide) (by decide)) rfl rfl (Nat.le_of_ble_eq_true rfl) (dkAt dk_L_walkGain 3 rfl) 6 rfl 2 12 rfl rfl (fun v1 M2 hf => ?_) (fun e4 M5 hf => ?_)
  · refine x_i2l C (dkAt dk_L_walkGain 4 rfl) 7 rfl ?_
    refine x_last C (hN.sh sh124) (dkAt dk_L_walkGain 5 rfl) 8 rfl hf (fun M3 hf => ?_)
    refine x_goto C 14 (dkAt dk_L_walkGain 6 rfl) (by decide) ?_
    refine x_iconst C (v := (0 : Int32)) (by decide) (dkAt dk_L_walkGain 10 rfl) 15 rfl ?_
    exact x_iret C E hf (by decide) (by decide) (dkAt dk_L_walkGain 11 rfl)
  · refine if_then hf (fun hE hf => ?_) (fun hE hf => ?_)
    · subst hE
      refine x_catch C hC hT [] ⟨0, 8, 11, 21⟩ [] rfl (fun _ h => nomatch h) (by decide) (by decide) (by decide) clk0 ckk0 (fun q6 => ?_)
      refine x_astore_n C (L1 := [some (.ref (wad Γ 0)), some (.ref (wad Γ 124)), some (.ref q6)]) (dkAt dk_L_walkGain 7 rfl) 12 rfl rfl (by decide) rfl ?_
      refine x_iconst C (v := (1 : Int32)) (by decide) (dkAt dk_L_walkGain 8 rfl) 13 rfl ?_
      exact x_iret C E hf (by decide) (by decide) (dkAt dk_L_walkGain 9 rfl)
    · exact nomatch hf
def f_L_walkUsed (Z : Nat) (M : Mem) (p1 : Int32) : Option (Int32 × Mem) :=
  clT (f_X11_walkUsed Z M p1) (fun v1 M2 => wrL M2 124 1 (0 : Int32) v1.toInt64 (fun M3 => some ((0 : Int32), M3))) (fun e4 M5 => (if e4 = 0 then some ((1 : Int32), M5) else (if e4 = 1 then some ((2 : Int32), M5) else none)))
set_option maxRecDepth 100000 in
theorem c_L_walkUsed {Γ : WC} (hN : HN Γ) (hC : NC Γ) {Z : Nat} {M : Mem} {p1 : Int32} {rM : Int32 × Mem}  (hf : f_L_walkUsed Z M p1 = some rM) : CtW Γ yL_walkUsed cL_walkUsed 4 (some .int) [(0, 9, 12, 21), (0, 9, 15, 13)] (rmL 9 4 24) [.ref (wad Γ 0), .int p1, .ref (wad Γ 124)] M (some (.int rM.1)) rM.2 := by
  refine mkW hN.1 (own := RL) rfl (by decide) (Nat.le_of_ble_eq_true rfl) (fun X C hT E => ?_)
  change G Γ X M 0 0 [some (.ref (wad Γ 0)), some (.int p1), some (.ref (wad Γ 124))] [] 0
  unfold f_L_walkUsed at hf
  refine x_aload_n C rfl rfl (dkAt dk_L_walkUsed 0 rfl) 1 rfl ?_
  refine x_iconst C (v := (0 : Int32)) (by decide) (dkAt dk_L_walkUsed 1 rfl) 2 rfl ?_
  refine x_aload_n C rfl rfl (dkAt dk_L_walkUsed 2 rfl) 3 rfl ?_
  refine x_iload_n C rfl rfl (dkAt dk_L_walkUsed 3 rfl) 4 rfl ?_
  refine h_cVi C hf (fun r hr => c_X11_walkUsed hN hr) mw_X11_walkUsed ln_RL_143 mi_X11_walkUsed (hN.rc (ci := 11) sh0 rc11) (ro_of (by decide) (by decide) (by decide) (by decide)) rfl rfl (Nat.le_of_ble_eq_true rfl) (dkAt dk_L_walkUsed 4 rfl) 7 rfl 4 24 rfl rfl (fun v1 M2 hf => ?_) (fun e4 M5 hf => ?_)
  · refine x_i2l C (dkAt dk_L_walkUsed 5 rfl) 8 rfl ?_
    refine x_last C (hN.sh sh124) (dkAt dk_L_walkUsed 6 rfl) 9 rfl hf (fun M3 hf => ?_)
    refine x_goto C 18 (dkAt dk_L_walkUsed 7 rfl) (by decide) ?_
    refine x_iconst C (v := (0 : Int32)) (by decide) (dkAt dk_L_walkUsed 14 rfl) 19 rfl ?_
    exact x_iret C E hf (by decide) (by decide) (dkAt dk_L_walkUsed 15 rfl)
  · refine if_then hf (fun hE hf => ?_) (fun hE hf => ?_)
    · subst hE
      refine x_catch C hC hT [] ⟨0, 9, 12, 21⟩ [⟨0, 9, 15, 13⟩] rfl (fun _ h => nomatch h) (by decide) (by decide) (by decide) clk0 ckk0 (fun q6 => ?_)
      refine x_astore_n C (L1 := [some (.ref (wad Γ 0)), some (.int p1), some (.ref (wad Γ 124)), some (.ref q6)]) (dkAt dk_L_walkUsed 8 rfl) 13 rfl rfl (by decide) rfl ?_
      refine x_iconst C (v := (1 : Int32)) (by decide) (dkAt dk_L_walkUsed 9 rfl) 14 rfl ?_
      exact x_iret C E hf (by decide) (by decide) (dkAt dk_L_walkUsed 10 rfl)
    · refine if_then hf (fun hE hf => ?_) (fun hE hf => ?_)
      · subst hE
        refine x_catch C hC hT [⟨0, 9, 12, 21⟩] ⟨0, 9, 15, 13⟩ [] rfl (List.forall_mem_cons.mpr ⟨⟨by decide, 0, by decide, by decide, clk0⟩, (fun _ h => nomatch h)⟩) (by decide) (by decide) (by decide) clk1 ckk1 (fun q7 => ?_)
        refine x_astore_n C (L1 := [some (.ref (wad Γ 0)), some (.int p1), some (.ref (wad Γ 124)), some (.ref q7)]) (dkAt dk_L_walkUsed 11 rfl) 16 rfl rfl (by decide) rfl ?_
        refine x_iconst C (v := (2 : Int32)) (by decide) (dkAt dk_L_walkUsed 12 rfl) 17 rfl ?_
        exact x_iret C E hf (by decide) (by decide) (dkAt dk_L_walkUsed 13 rfl)
      · exact nomatch hf
def f_L_gainOfWalks (Z : Nat) (M : Mem) (p1 : Int32) : Option (Int32 × Mem) :=
  clT (f_X11_gainOfWalks Z M p1) (fun v1 M2 => wrL M2 124 1 (0 : Int32) v1.toInt64 (fun M3 => some ((0 : Int32), M3))) (fun e4 M5 => (if e4 = 0 then some ((1 : Int32), M5) else (if e4 = 2 then some ((2 : Int32), M5) else none)))
set_option maxRecDepth 100000 in
theorem c_L_gainOfWalks {Γ : WC} (hN : HN Γ) (hC : NC Γ) {Z : Nat} {M : Mem} {p1 : Int32} {rM : Int32 × Mem}  (hf : f_L_gainOfWalks Z M p1 = some rM) : CtW Γ yL_gainOfWalks cL_gainOfWalks 4 (some .int) [(0, 9, 12, 21), (0, 9, 15, 15)] (rmL 8 2 12) [.ref (wad Γ 0), .int p1, .ref (wad Γ 124)] M (some (.int rM.1)) rM.2 := by
  refine mkW hN.1 (own := RL) rfl (by decide) (Nat.le_of_ble_eq_true rfl) (fun X C hT E => ?_)
  change G Γ X M 0 0 [some (.ref (wad Γ 0)), some (.int p1), some (.ref (wad Γ 124))] [] 0
  unfold f_L_gainOfWalks at hf
  refine x_aload_n C rfl rfl (dkAt dk_L_gainOfWalks 0 rfl) 1 rfl ?_
  refine x_iconst C (v := (0 : Int32)) (by decide) (dkAt dk_L_gainOfWalks 1 rfl) 2 rfl ?_
  refine x_aload_n C rfl rfl (dkAt dk_L_gainOfWalks 2 rfl) 3 rfl ?_
  refine x_iload_n C rfl rfl (dkAt dk_L_gainOfWalks 3 rfl) 4 rfl ?_
  refine h_cVi C hf (fun r hr => c_X11_gainOfWalks hN hr) mw_X11_gainOfWalks ln_RL_146 mi_X11_gainOfWalks (hN.rc (ci := 11) sh0 rc11) (ro_of (by decide) (by decide) (by decide) (by decide)) rfl rfl (Nat.le_of_ble_eq_true rfl) (dkAt dk_L_gainOfWalks 4 rfl) 7 rfl 2 12 rfl rfl (fun v1 M2 hf => ?_) (fun e4 M5 hf => ?_)
  · refine x_i2l C (dkAt dk_L_gainOfWalks 5 rfl) 8 rfl ?_
    refine x_last C (hN.sh sh124) (dkAt dk_L_gainOfWalks 6 rfl) 9 rfl hf (fun M3 hf => ?_)
    refine x_goto C 18 (dkAt dk_L_gainOfWalks 7 rfl) (by decide) ?_
    refine x_iconst C (v := (0 : Int32)) (by decide) (dkAt dk_L_gainOfWalks 14 rfl) 19 rfl ?_
    exact x_iret C E hf (by decide) (by decide) (dkAt dk_L_gainOfWalks 15 rfl)
  · refine if_then hf (fun hE hf => ?_) (fun hE hf => ?_)
    · subst hE
      refine x_catch C hC hT [] ⟨0, 9, 12, 21⟩ [⟨0, 9, 15, 15⟩] rfl (fun _ h => nomatch h) (by decide) (by decide) (by decide) clk0 ckk0 (fun q6 => ?_)
      refine x_astore_n C (L1 := [some (.ref (wad Γ 0)), some (.int p1), some (.ref (wad Γ 124)), some (.ref q6)]) (dkAt dk_L_gainOfWalks 8 rfl) 13 rfl rfl (by decide) rfl ?_
      refine x_iconst C (v := (1 : Int32)) (by decide) (dkAt dk_L_gainOfWalks 9 rfl) 14 rfl ?_
      exact x_iret C E hf (by decide) (by decide) (dkAt dk_L_gainOfWalks 10 rfl)
    · refine if_then hf (fun hE hf => ?_) (fun hE hf => ?_)
      · subst hE
        refine x_catch C hC hT [⟨0, 9, 12, 21⟩] ⟨0, 9, 15, 15⟩ [] rfl (List.forall_mem_cons.mpr ⟨⟨by decide, 0, by decide, by decide, clk0⟩, (fun _ h => nomatch h)⟩) (by decide) (by decide) (by decide) clk2 ckk2 (fun q7 => ?_)
        refine x_astore_n C (L1 := [some (.ref (wad Γ 0)), some (.int p1), some (.ref (wad Γ 124)), some (.ref q7)]) (dkAt dk_L_gainOfWalks 11 rfl) 16 rfl rfl (by decide) rfl ?_
        refine x_iconst C (v := (2 : Int32)) (by decide) (dkAt dk_L_gainOfWalks 12 rfl) 17 rfl ?_
        exact x_iret C E hf (by decide) (by decide) (dkAt dk_L_gainOfWalks 13 rfl)
      · exact nomatch hf
def f_L_report (Z : Nat) (M : Mem) (p1 : Int32) : Option (Int32 × Mem) :=
  clT (f_X11_report Z M p1) (fun v1 M2 => wrL M2 124 1 (0 : Int32) v1.toInt64 (fun M3 => some ((0 : Int32), M3))) (fun e4 M5 => (if e4 = 0 then some ((1 : Int32), M5) else (if e4 = 2 then some ((2 : Int32), M5) else none)))
set_option maxRecDepth 100000 in
theorem c_L_report {Γ : WC} (hN : HN Γ) (hC : NC Γ) {Z : Nat} {M : Mem} {p1 : Int32} {rM : Int32 × Mem}  (hf : f_L_report Z M p1 = some rM) : CtW Γ yL_report cL_report 4 (some .int) [(0, 9, 12, 21), (0, 9, 15, 15)] (rmL 9 2 12) [.ref (wad Γ 0), .int p1, .ref (wad Γ 124)] M (some (.int rM.1)) rM.2 := by
  refine mkW hN.1 (own := RL) rfl (by decide) (Nat.le_of_ble_eq_true rfl) (fun X C hT E => ?_)
  change G Γ X M 0 0 [some (.ref (wad Γ 0)), some (.int p1), some (.ref (wad Γ 124))] [] 0
  unfold f_L_report at hf
  refine x_aload_n C rfl rfl (dkAt dk_L_report 0 rfl) 1 rfl ?_
  refine x_iconst C (v := (0 : Int32)) (by decide) (dkAt dk_L_report 1 rfl) 2 rfl ?_
  refine x_aload_n C rfl rfl (dkAt dk_L_report 2 rfl) 3 rfl ?_
  refine x_iload_n C rfl rfl (dkAt dk_L_report 3 rfl) 4 rfl ?_
  refine h_cVi C hf (fun r hr => c_X11_report hN hr) mw_X11_report ln_RL_149 mi_X11_report (hN.rc (ci := 11) sh0 rc11) (ro_of (by decide) (by decide) (by decide) (by decide)) rfl rfl (Nat.le_of_ble_eq_true rfl) (dkAt dk_L_report 4 rfl) 7 rfl 2 12 rfl rfl (fun v1 M2 hf => ?_) (fun e4 M5 hf => ?_)
  · refine x_i2l C (dkAt dk_L_report 5 rfl) 8 rfl ?_
    refine x_last C (hN.sh sh124) (dkAt dk_L_report 6 rfl) 9 rfl hf (fun M3 hf => ?_)
    refine x_goto C 18 (dkAt dk_L_report 7 rfl) (by decide) ?_
    refine x_iconst C (v := (0 : Int32)) (by decide) (dkAt dk_L_report 14 rfl) 19 rfl ?_
    exact x_iret C E hf (by decide) (by decide) (dkAt dk_L_report 15 rfl)
  · refine if_then hf (fun hE hf => ?_) (fun hE hf => ?_)
    · subst hE
      refine x_catch C hC hT [] ⟨0, 9, 12, 21⟩ [⟨0, 9, 15, 15⟩] rfl (fun _ h => nomatch h) (by decide) (by decide) (by decide) clk0 ckk0 (fun q6 => ?_)
      refine x_astore_n C (L1 := [some (.ref (wad Γ 0)), some (.int p1), some (.ref (wad Γ 124)), some (.ref q6)]) (dkAt dk_L_report 8 rfl) 13 rfl rfl (by decide) rfl ?_
      refine x_iconst C (v := (1 : Int32)) (by decide) (dkAt dk_L_report 9 rfl) 14 rfl ?_
      exact x_iret C E hf (by decide) (by decide) (dkAt dk_L_report 10 rfl)
    · refine if_then hf (fun hE hf => ?_) (fun hE hf => ?_)
      · subst hE
        refine x_catch C hC hT [⟨0, 9, 12, 21⟩] ⟨0, 9, 15, 15⟩ [] rfl (List.forall_mem_cons.mpr ⟨⟨by decide, 0, by decide, by decide, clk0⟩, (fun _ h => nomatch h)⟩) (by decide) (by decide) (by decide) clk2 ckk2 (fun q7 => ?_)
        refine x_astore_n C (L1 := [some (.ref (wad Γ 0)), some (.int p1), some (.ref (wad Γ 124)), some (.ref q7)]) (dkAt dk_L_report 11 rfl) 16 rfl rfl (by decide) rfl ?_
        refine x_iconst C (v := (2 : Int32)) (by decide) (dkAt dk_L_report 12 rfl) 17 rfl ?_
        exact x_iret C E hf (by decide) (by decide) (dkAt dk_L_report 13 rfl)
      · exact nomatch hf
def f_L_reportByte (Z : Nat) (M : Mem) (p1 : Int32) : Option (Int32 × Mem) :=
  clT (f_X11_reportByte Z M p1) (fun v1 M2 => wrL M2 124 1 (0 : Int32) v1.toInt64 (fun M3 => some ((0 : Int32), M3))) (fun e4 M5 => (if e4 = 1 then some ((1 : Int32), M5) else none))
set_option maxRecDepth 100000 in
theorem c_L_reportByte {Γ : WC} (hN : HN Γ) (hC : NC Γ) {Z : Nat} {M : Mem} {p1 : Int32} {rM : Int32 × Mem}  (hf : f_L_reportByte Z M p1 = some rM) : CtW Γ yL_reportByte cL_reportByte 4 (some .int) [(0, 9, 12, 13)] (rmL 7 1 6) [.ref (wad Γ 0), .int p1, .ref (wad Γ 124)] M (some (.int rM.1)) rM.2 := by
  refine mkW hN.1 (own := RL) rfl (by decide) (Nat.le_of_ble_eq_true rfl) (fun X C hT E => ?_)
  change G Γ X M 0 0 [some (.ref (wad Γ 0)), some (.int p1), some (.ref (wad Γ 124))] [] 0
  unfold f_L_reportByte at hf
  refine x_aload_n C rfl rfl (dkAt dk_L_reportByte 0 rfl) 1 rfl ?_
  refine x_iconst C (v := (0 : Int32)) (by decide) (dkAt dk_L_reportByte 1 rfl) 2 rfl ?_
  refine x_aload_n C rfl rfl (dkAt dk_L_reportByte 2 rfl) 3 rfl ?_
  refine x_iload_n C rfl rfl (dkAt dk_L_reportByte 3 rfl) 4 rfl ?_
  refine h_cVi C hf (fun r hr => c_X11_reportByte hN hr) mw_X11_reportByte ln_RL_152 mi_X11_reportByte (hN.rc (ci := 11) sh0 rc11) (ro_of (by decide) (by decide) (by decide) (by decide)) rfl rfl (Nat.le_of_ble_eq_true rfl) (dkAt dk_L_reportByte 4 rfl) 7 rfl 1 6 rfl rfl (fun v1 M2 hf => ?_) (fun e4 M5 hf => ?_)
  · refine x_i2l C (dkAt dk_L_reportByte 5 rfl) 8 rfl ?_
    refine x_last C (hN.sh sh124) (dkAt dk_L_reportByte 6 rfl) 9 rfl hf (fun M3 hf => ?_)
    refine x_goto C 15 (dkAt dk_L_reportByte 7 rfl) (by decide) ?_
    refine x_iconst C (v := (0 : Int32)) (by decide) (dkAt dk_L_reportByte 11 rfl) 16 rfl ?_
    exact x_iret C E hf (by decide) (by decide) (dkAt dk_L_reportByte 12 rfl)
  · refine if_then hf (fun hE hf => ?_) (fun hE hf => ?_)
    · subst hE
      refine x_catch C hC hT [] ⟨0, 9, 12, 13⟩ [] rfl (fun _ h => nomatch h) (by decide) (by decide) (by decide) clk1 ckk1 (fun q6 => ?_)
      refine x_astore_n C (L1 := [some (.ref (wad Γ 0)), some (.int p1), some (.ref (wad Γ 124)), some (.ref q6)]) (dkAt dk_L_reportByte 8 rfl) 13 rfl rfl (by decide) rfl ?_
      refine x_iconst C (v := (1 : Int32)) (by decide) (dkAt dk_L_reportByte 9 rfl) 14 rfl ?_
      exact x_iret C E hf (by decide) (by decide) (dkAt dk_L_reportByte 10 rfl)
    · exact nomatch hf
def f_L_setRule (Z : Nat) (M : Mem) (p1 : Int32) (p2 : Int32) (p3 : Int32) (p4 : Int32) : Option (Int32 × Mem) :=
  clT (f_X11_setRule Z M p1 p2 p3 p4) (fun v1 M2 => wrL M2 124 1 (0 : Int32) v1.toInt64 (fun M3 => some ((0 : Int32), M3))) (fun e4 M5 => (if e4 = 0 then some ((1 : Int32), M5) else (if e4 = 1 then some ((2 : Int32), M5) else (if e4 = 2 then some ((3 : Int32), M5) else none))))
set_option maxRecDepth 100000 in
theorem c_L_setRule {Γ : WC} (hN : HN Γ) (hC : NC Γ) {Z : Nat} {M : Mem} {p1 : Int32} {p2 : Int32} {p3 : Int32} {p4 : Int32} {rM : Int32 × Mem}  (hf : f_L_setRule Z M p1 p2 p3 p4 = some rM) : CtW Γ yL_setRule cL_setRule 7 (some .int) [(0, 14, 17, 21), (0, 14, 21, 13), (0, 14, 25, 15)] (rmL 9 6 36) [.ref (wad Γ 0), .int p1, .int p2, .int p3, .int p4, .ref (wad Γ 124)] M (some (.int rM.1)) rM.2 := by
  refine mkW hN.1 (own := RL) rfl (by decide) (Nat.le_of_ble_eq_true rfl) (fun X C hT E => ?_)
  change G Γ X M 0 0 [some (.ref (wad Γ 0)), some (.int p1), some (.int p2), some (.int p3), some (.int p4), some (.ref (wad Γ 124))] [] 0
  unfold f_L_setRule at hf
  refine x_aload C rfl (dkAt dk_L_setRule 0 rfl) 2 rfl ?_
  refine x_iconst C (v := (0 : Int32)) (by decide) (dkAt dk_L_setRule 1 rfl) 3 rfl ?_
  refine x_aload_n C rfl rfl (dkAt dk_L_setRule 2 rfl) 4 rfl ?_
  refine x_iload_n C rfl rfl (dkAt dk_L_setRule 3 rfl) 5 rfl ?_
  refine x_iload_n C rfl rfl (dkAt dk_L_setRule 4 rfl) 6 rfl ?_
  refine x_iload_n C rfl rfl (dkAt dk_L_setRule 5 rfl) 7 rfl ?_
  refine x_iload C rfl (dkAt dk_L_setRule 6 rfl) 9 rfl ?_
  refine h_cVi C hf (fun r hr => c_X11_setRule hN hr) mw_X11_setRule ln_RL_155 mi_X11_setRule (hN.rc (ci := 11) sh0 rc11) (ro_of (by decide) (by decide) (by decide) (by decide)) rfl rfl (Nat.le_of_ble_eq_true rfl) (dkAt dk_L_setRule 7 rfl) 12 rfl 6 36 rfl rfl (fun v1 M2 hf => ?_) (fun e4 M5 hf => ?_)
  · refine x_i2l C (dkAt dk_L_setRule 8 rfl) 13 rfl ?_
    refine x_last C (hN.sh sh124) (dkAt dk_L_setRule 9 rfl) 14 rfl hf (fun M3 hf => ?_)
    refine x_goto C 29 (dkAt dk_L_setRule 10 rfl) (by decide) ?_
    refine x_iconst C (v := (0 : Int32)) (by decide) (dkAt dk_L_setRule 20 rfl) 30 rfl ?_
    exact x_iret C E hf (by decide) (by decide) (dkAt dk_L_setRule 21 rfl)
  · refine if_then hf (fun hE hf => ?_) (fun hE hf => ?_)
    · subst hE
      refine x_catch C hC hT [] ⟨0, 14, 17, 21⟩ [⟨0, 14, 21, 13⟩, ⟨0, 14, 25, 15⟩] rfl (fun _ h => nomatch h) (by decide) (by decide) (by decide) clk0 ckk0 (fun q6 => ?_)
      refine x_astore C (L1 := [some (.ref (wad Γ 0)), some (.int p1), some (.int p2), some (.int p3), some (.int p4), some (.ref (wad Γ 124)), some (.ref q6)]) (dkAt dk_L_setRule 11 rfl) 19 rfl (by decide) rfl ?_
      refine x_iconst C (v := (1 : Int32)) (by decide) (dkAt dk_L_setRule 12 rfl) 20 rfl ?_
      exact x_iret C E hf (by decide) (by decide) (dkAt dk_L_setRule 13 rfl)
    · refine if_then hf (fun hE hf => ?_) (fun hE hf => ?_)
      · subst hE
        refine x_catch C hC hT [⟨0, 14, 17, 21⟩] ⟨0, 14, 21, 13⟩ [⟨0, 14, 25, 15⟩] rfl (List.forall_mem_cons.mpr ⟨⟨by decide, 0, by decide, by decide, clk0⟩, (fun _ h => nomatch h)⟩) (by decide) (by decide) (by decide) clk1 ckk1 (fun q7 => ?_)
        refine x_astore C (L1 := [some (.ref (wad Γ 0)), some (.int p1), some (.int p2), some (.int p3), some (.int p4), some (.ref (wad Γ 124)), some (.ref q7)]) (dkAt dk_L_setRule 14 rfl) 23 rfl (by decide) rfl ?_
        refine x_iconst C (v := (2 : Int32)) (by decide) (dkAt dk_L_setRule 15 rfl) 24 rfl ?_
        exact x_iret C E hf (by decide) (by decide) (dkAt dk_L_setRule 16 rfl)
      · refine if_then hf (fun hE hf => ?_) (fun hE hf => ?_)
        · subst hE
          refine x_catch C hC hT [⟨0, 14, 17, 21⟩, ⟨0, 14, 21, 13⟩] ⟨0, 14, 25, 15⟩ [] rfl (List.forall_mem_cons.mpr ⟨⟨by decide, 0, by decide, by decide, clk0⟩, (List.forall_mem_cons.mpr ⟨⟨by decide, 1, by decide, by decide, clk1⟩, (fun _ h => nomatch h)⟩)⟩) (by decide) (by decide) (by decide) clk2 ckk2 (fun q8 => ?_)
          refine x_astore C (L1 := [some (.ref (wad Γ 0)), some (.int p1), some (.int p2), some (.int p3), some (.int p4), some (.ref (wad Γ 124)), some (.ref q8)]) (dkAt dk_L_setRule 17 rfl) 27 rfl (by decide) rfl ?_
          refine x_iconst C (v := (3 : Int32)) (by decide) (dkAt dk_L_setRule 18 rfl) 28 rfl ?_
          exact x_iret C E hf (by decide) (by decide) (dkAt dk_L_setRule 19 rfl)
        · exact nomatch hf
def f_L_takeBest (Z : Nat) (M : Mem)  : Option (Int32 × Mem) :=
  clT (f_X11_takeBest Z M) (fun v1 M2 => wrL M2 124 1 (0 : Int32) v1.toInt64 (fun M3 => some ((0 : Int32), M3))) (fun e4 M5 => (if e4 = 0 then some ((1 : Int32), M5) else none))
set_option maxRecDepth 100000 in
theorem c_L_takeBest {Γ : WC} (hN : HN Γ) (hC : NC Γ) {Z : Nat} {M : Mem}  {rM : Int32 × Mem}  (hf : f_L_takeBest Z M  = some rM) : CtW Γ yL_takeBest cL_takeBest 3 (some .int) [(0, 8, 11, 21)] (rmL 8 2 12) [.ref (wad Γ 0), .ref (wad Γ 124)] M (some (.int rM.1)) rM.2 := by
  refine mkW hN.1 (own := RL) rfl (by decide) (Nat.le_of_ble_eq_true rfl) (fun X C hT E => ?_)
  change G Γ X M 0 0 [some (.ref (wad Γ 0)), some (.ref (wad Γ 124))] [] 0
  unfold f_L_takeBest at hf
  refine x_aload_n C rfl rfl (dkAt dk_L_takeBest 0 rfl) 1 rfl ?_
  refine x_iconst C (v := (0 : Int32)) (by decide) (dkAt dk_L_takeBest 1 rfl) 2 rfl ?_
  refine x_aload_n C rfl rfl (dkAt dk_L_takeBest 2 rfl) 3 rfl ?_
  refine h_cVi C hf (fun r hr => c_X11_takeBest hN hr) mw_X11_takeBest ln_RL_159 mi_X11_takeBest (hN.rc (ci := 11) sh0 rc11) (ro_of (by decide) (by decide) (by decide) (by decide)) rfl rfl (Nat.le_of_ble_eq_true rfl) (dkAt dk_L_takeBest 3 rfl) 6 rfl 2 12 rfl rfl (fun v1 M2 hf => ?_) (fun e4 M5 hf => ?_)
  · refine x_i2l C (dkAt dk_L_takeBest 4 rfl) 7 rfl ?_
    refine x_last C (hN.sh sh124) (dkAt dk_L_takeBest 5 rfl) 8 rfl hf (fun M3 hf => ?_)
    refine x_goto C 14 (dkAt dk_L_takeBest 6 rfl) (by decide) ?_
    refine x_iconst C (v := (0 : Int32)) (by decide) (dkAt dk_L_takeBest 10 rfl) 15 rfl ?_
    exact x_iret C E hf (by decide) (by decide) (dkAt dk_L_takeBest 11 rfl)
  · refine if_then hf (fun hE hf => ?_) (fun hE hf => ?_)
    · subst hE
      refine x_catch C hC hT [] ⟨0, 8, 11, 21⟩ [] rfl (fun _ h => nomatch h) (by decide) (by decide) (by decide) clk0 ckk0 (fun q6 => ?_)
      refine x_astore_n C (L1 := [some (.ref (wad Γ 0)), some (.ref (wad Γ 124)), some (.ref q6)]) (dkAt dk_L_takeBest 7 rfl) 12 rfl rfl (by decide) rfl ?_
      refine x_iconst C (v := (1 : Int32)) (by decide) (dkAt dk_L_takeBest 8 rfl) 13 rfl ?_
      exact x_iret C E hf (by decide) (by decide) (dkAt dk_L_takeBest 9 rfl)
    · exact nomatch hf
def f_L_permit (Z : Nat) (M : Mem) (p1 : Int32) (p2 : Int32) (p3 : Int32) : Option (Int32 × Mem) :=
  clT (f_X11_permit Z M p1 p2 p3) (fun v1 M2 => (if v1 = 0 then wrL M2 124 1 (0 : Int32) (0 : Int64) (fun M3 => some ((0 : Int32), M3)) else wrL M2 124 1 (0 : Int32) (1 : Int64) (fun M4 => some ((0 : Int32), M4)))) (fun e5 M6 => (if e5 = 0 then some ((1 : Int32), M6) else (if e5 = 1 then some ((2 : Int32), M6) else (if e5 = 2 then some ((3 : Int32), M6) else none))))
set_option maxRecDepth 100000 in
theorem c_L_permit {Γ : WC} (hN : HN Γ) (hC : NC Γ) {Z : Nat} {M : Mem} {p1 : Int32} {p2 : Int32} {p3 : Int32} {rM : Int32 × Mem}  (hf : f_L_permit Z M p1 p2 p3 = some rM) : CtW Γ yL_permit cL_permit 6 (some .int) [(0, 19, 22, 21), (0, 19, 26, 13), (0, 19, 30, 15)] (rmL 10 4 24) [.ref (wad Γ 0), .int p1, .int p2, .int p3, .ref (wad Γ 124)] M (some (.int rM.1)) rM.2 := by
  refine mkW hN.1 (own := RL) rfl (by decide) (Nat.le_of_ble_eq_true rfl) (fun X C hT E => ?_)
  change G Γ X M 0 0 [some (.ref (wad Γ 0)), some (.int p1), some (.int p2), some (.int p3), some (.ref (wad Γ 124))] [] 0
  unfold f_L_permit at hf
  refine x_aload C rfl (dkAt dk_L_permit 0 rfl) 2 rfl ?_
  refine x_iconst C (v := (0 : Int32)) (by decide) (dkAt dk_L_permit 1 rfl) 3 rfl ?_
  refine x_aload_n C rfl rfl (dkAt dk_L_permit 2 rfl) 4 rfl ?_
  refine x_iload_n C rfl rfl (dkAt dk_L_permit 3 rfl) 5 rfl ?_
  refine x_iload_n C rfl rfl (dkAt dk_L_permit 4 rfl) 6 rfl ?_
  refine x_iload_n C rfl rfl (dkAt dk_L_permit 5 rfl) 7 rfl ?_
  refine h_cVi C hf (fun r hr => c_X11_permit hN hr) mw_X11_permit ln_RL_162 mi_X11_permit (hN.rc (ci := 11) sh0 rc11) (ro_of (by decide) (by decide) (by decide) (by decide)) rfl rfl (Nat.le_of_ble_eq_true rfl) (dkAt dk_L_permit 6 rfl) 10 rfl 4 24 rfl rfl (fun v1 M2 hf => ?_) (fun e5 M6 hf => ?_)
  · refine x_if_eq C 17 (dkAt dk_L_permit 7 rfl) 13 rfl (by decide) hf (fun hf => ?_) (fun hf => ?_)
    · refine x_lconst C (v := (0 : Int64)) (by decide) (dkAt dk_L_permit 10 rfl) 18 rfl ?_
      refine x_last C (hN.sh sh124) (dkAt dk_L_permit 11 rfl) 19 rfl hf (fun M3 hf => ?_)
      refine x_goto C 34 (dkAt dk_L_permit 12 rfl) (by decide) ?_
      refine x_iconst C (v := (0 : Int32)) (by decide) (dkAt dk_L_permit 22 rfl) 35 rfl ?_
      exact x_iret C E hf (by decide) (by decide) (dkAt dk_L_permit 23 rfl)
    · refine x_lconst C (v := (1 : Int64)) (by decide) (dkAt dk_L_permit 8 rfl) 14 rfl ?_
      refine x_goto C 18 (dkAt dk_L_permit 9 rfl) (by decide) ?_
      refine x_last C (hN.sh sh124) (dkAt dk_L_permit 11 rfl) 19 rfl hf (fun M4 hf => ?_)
      refine x_goto C 34 (dkAt dk_L_permit 12 rfl) (by decide) ?_
      refine x_iconst C (v := (0 : Int32)) (by decide) (dkAt dk_L_permit 22 rfl) 35 rfl ?_
      exact x_iret C E hf (by decide) (by decide) (dkAt dk_L_permit 23 rfl)
  · refine if_then hf (fun hE hf => ?_) (fun hE hf => ?_)
    · subst hE
      refine x_catch C hC hT [] ⟨0, 19, 22, 21⟩ [⟨0, 19, 26, 13⟩, ⟨0, 19, 30, 15⟩] rfl (fun _ h => nomatch h) (by decide) (by decide) (by decide) clk0 ckk0 (fun q7 => ?_)
      refine x_astore C (L1 := [some (.ref (wad Γ 0)), some (.int p1), some (.int p2), some (.int p3), some (.ref (wad Γ 124)), some (.ref q7)]) (dkAt dk_L_permit 13 rfl) 24 rfl (by decide) rfl ?_
      refine x_iconst C (v := (1 : Int32)) (by decide) (dkAt dk_L_permit 14 rfl) 25 rfl ?_
      exact x_iret C E hf (by decide) (by decide) (dkAt dk_L_permit 15 rfl)
    · refine if_then hf (fun hE hf => ?_) (fun hE hf => ?_)
      · subst hE
        refine x_catch C hC hT [⟨0, 19, 22, 21⟩] ⟨0, 19, 26, 13⟩ [⟨0, 19, 30, 15⟩] rfl (List.forall_mem_cons.mpr ⟨⟨by decide, 0, by decide, by decide, clk0⟩, (fun _ h => nomatch h)⟩) (by decide) (by decide) (by decide) clk1 ckk1 (fun q8 => ?_)
        refine x_astore C (L1 := [some (.ref (wad Γ 0)), some (.int p1), some (.int p2), some (.int p3), some (.ref (wad Γ 124)), some (.ref q8)]) (dkAt dk_L_permit 16 rfl) 28 rfl (by decide) rfl ?_
        refine x_iconst C (v := (2 : Int32)) (by decide) (dkAt dk_L_permit 17 rfl) 29 rfl ?_
        exact x_iret C E hf (by decide) (by decide) (dkAt dk_L_permit 18 rfl)
      · refine if_then hf (fun hE hf => ?_) (fun hE hf => ?_)
        · subst hE
          refine x_catch C hC hT [⟨0, 19, 22, 21⟩, ⟨0, 19, 26, 13⟩] ⟨0, 19, 30, 15⟩ [] rfl (List.forall_mem_cons.mpr ⟨⟨by decide, 0, by decide, by decide, clk0⟩, (List.forall_mem_cons.mpr ⟨⟨by decide, 1, by decide, by decide, clk1⟩, (fun _ h => nomatch h)⟩)⟩) (by decide) (by decide) (by decide) clk2 ckk2 (fun q9 => ?_)
          refine x_astore C (L1 := [some (.ref (wad Γ 0)), some (.int p1), some (.int p2), some (.int p3), some (.ref (wad Γ 124)), some (.ref q9)]) (dkAt dk_L_permit 19 rfl) 32 rfl (by decide) rfl ?_
          refine x_iconst C (v := (3 : Int32)) (by decide) (dkAt dk_L_permit 20 rfl) 33 rfl ?_
          exact x_iret C E hf (by decide) (by decide) (dkAt dk_L_permit 21 rfl)
        · exact nomatch hf
def f_L_setLimit (Z : Nat) (M : Mem) (p1 : Int32) (p2 : Int32) : Option (Int32 × Mem) :=
  clT (f_X11_setLimit Z M p1 p2) (fun v1 M2 => wrL M2 124 1 (0 : Int32) v1.toInt64 (fun M3 => some ((0 : Int32), M3))) (fun e4 M5 => (if e4 = 0 then some ((1 : Int32), M5) else (if e4 = 1 then some ((2 : Int32), M5) else (if e4 = 2 then some ((3 : Int32), M5) else none))))
set_option maxRecDepth 100000 in
theorem c_L_setLimit {Γ : WC} (hN : HN Γ) (hC : NC Γ) {Z : Nat} {M : Mem} {p1 : Int32} {p2 : Int32} {rM : Int32 × Mem}  (hf : f_L_setLimit Z M p1 p2 = some rM) : CtW Γ yL_setLimit cL_setLimit 5 (some .int) [(0, 10, 13, 21), (0, 10, 17, 13), (0, 10, 21, 15)] (rmL 9 3 18) [.ref (wad Γ 0), .int p1, .int p2, .ref (wad Γ 124)] M (some (.int rM.1)) rM.2 := by
  refine mkW hN.1 (own := RL) rfl (by decide) (Nat.le_of_ble_eq_true rfl) (fun X C hT E => ?_)
  change G Γ X M 0 0 [some (.ref (wad Γ 0)), some (.int p1), some (.int p2), some (.ref (wad Γ 124))] [] 0
  unfold f_L_setLimit at hf
  refine x_aload_n C rfl rfl (dkAt dk_L_setLimit 0 rfl) 1 rfl ?_
  refine x_iconst C (v := (0 : Int32)) (by decide) (dkAt dk_L_setLimit 1 rfl) 2 rfl ?_
  refine x_aload_n C rfl rfl (dkAt dk_L_setLimit 2 rfl) 3 rfl ?_
  refine x_iload_n C rfl rfl (dkAt dk_L_setLimit 3 rfl) 4 rfl ?_
  refine x_iload_n C rfl rfl (dkAt dk_L_setLimit 4 rfl) 5 rfl ?_
  refine h_cVi C hf (fun r hr => c_X11_setLimit hN hr) mw_X11_setLimit ln_RL_166 mi_X11_setLimit (hN.rc (ci := 11) sh0 rc11) (ro_of (by decide) (by decide) (by decide) (by decide)) rfl rfl (Nat.le_of_ble_eq_true rfl) (dkAt dk_L_setLimit 5 rfl) 8 rfl 3 18 rfl rfl (fun v1 M2 hf => ?_) (fun e4 M5 hf => ?_)
  · refine x_i2l C (dkAt dk_L_setLimit 6 rfl) 9 rfl ?_
    refine x_last C (hN.sh sh124) (dkAt dk_L_setLimit 7 rfl) 10 rfl hf (fun M3 hf => ?_)
    refine x_goto C 25 (dkAt dk_L_setLimit 8 rfl) (by decide) ?_
    refine x_iconst C (v := (0 : Int32)) (by decide) (dkAt dk_L_setLimit 18 rfl) 26 rfl ?_
    exact x_iret C E hf (by decide) (by decide) (dkAt dk_L_setLimit 19 rfl)
  · refine if_then hf (fun hE hf => ?_) (fun hE hf => ?_)
    · subst hE
      refine x_catch C hC hT [] ⟨0, 10, 13, 21⟩ [⟨0, 10, 17, 13⟩, ⟨0, 10, 21, 15⟩] rfl (fun _ h => nomatch h) (by decide) (by decide) (by decide) clk0 ckk0 (fun q6 => ?_)
      refine x_astore C (L1 := [some (.ref (wad Γ 0)), some (.int p1), some (.int p2), some (.ref (wad Γ 124)), some (.ref q6)]) (dkAt dk_L_setLimit 9 rfl) 15 rfl (by decide) rfl ?_
      refine x_iconst C (v := (1 : Int32)) (by decide) (dkAt dk_L_setLimit 10 rfl) 16 rfl ?_
      exact x_iret C E hf (by decide) (by decide) (dkAt dk_L_setLimit 11 rfl)
    · refine if_then hf (fun hE hf => ?_) (fun hE hf => ?_)
      · subst hE
        refine x_catch C hC hT [⟨0, 10, 13, 21⟩] ⟨0, 10, 17, 13⟩ [⟨0, 10, 21, 15⟩] rfl (List.forall_mem_cons.mpr ⟨⟨by decide, 0, by decide, by decide, clk0⟩, (fun _ h => nomatch h)⟩) (by decide) (by decide) (by decide) clk1 ckk1 (fun q7 => ?_)
        refine x_astore C (L1 := [some (.ref (wad Γ 0)), some (.int p1), some (.int p2), some (.ref (wad Γ 124)), some (.ref q7)]) (dkAt dk_L_setLimit 12 rfl) 19 rfl (by decide) rfl ?_
        refine x_iconst C (v := (2 : Int32)) (by decide) (dkAt dk_L_setLimit 13 rfl) 20 rfl ?_
        exact x_iret C E hf (by decide) (by decide) (dkAt dk_L_setLimit 14 rfl)
      · refine if_then hf (fun hE hf => ?_) (fun hE hf => ?_)
        · subst hE
          refine x_catch C hC hT [⟨0, 10, 13, 21⟩, ⟨0, 10, 17, 13⟩] ⟨0, 10, 21, 15⟩ [] rfl (List.forall_mem_cons.mpr ⟨⟨by decide, 0, by decide, by decide, clk0⟩, (List.forall_mem_cons.mpr ⟨⟨by decide, 1, by decide, by decide, clk1⟩, (fun _ h => nomatch h)⟩)⟩) (by decide) (by decide) (by decide) clk2 ckk2 (fun q8 => ?_)
          refine x_astore C (L1 := [some (.ref (wad Γ 0)), some (.int p1), some (.int p2), some (.ref (wad Γ 124)), some (.ref q8)]) (dkAt dk_L_setLimit 15 rfl) 23 rfl (by decide) rfl ?_
          refine x_iconst C (v := (3 : Int32)) (by decide) (dkAt dk_L_setLimit 16 rfl) 24 rfl ?_
          exact x_iret C E hf (by decide) (by decide) (dkAt dk_L_setLimit 17 rfl)
        · exact nomatch hf
def f_L_setStart (Z : Nat) (M : Mem) (p1 : Int32) : Option (Int32 × Mem) :=
  clT (f_X11_setStart Z M p1) (fun v1 M2 => wrL M2 124 1 (0 : Int32) v1.toInt64 (fun M3 => some ((0 : Int32), M3))) (fun e4 M5 => (if e4 = 0 then some ((1 : Int32), M5) else (if e4 = 1 then some ((2 : Int32), M5) else none)))
set_option maxRecDepth 100000 in
theorem c_L_setStart {Γ : WC} (hN : HN Γ) (hC : NC Γ) {Z : Nat} {M : Mem} {p1 : Int32} {rM : Int32 × Mem}  (hf : f_L_setStart Z M p1 = some rM) : CtW Γ yL_setStart cL_setStart 4 (some .int) [(0, 9, 12, 21), (0, 9, 15, 13)] (rmL 9 2 12) [.ref (wad Γ 0), .int p1, .ref (wad Γ 124)] M (some (.int rM.1)) rM.2 := by
  refine mkW hN.1 (own := RL) rfl (by decide) (Nat.le_of_ble_eq_true rfl) (fun X C hT E => ?_)
  change G Γ X M 0 0 [some (.ref (wad Γ 0)), some (.int p1), some (.ref (wad Γ 124))] [] 0
  unfold f_L_setStart at hf
  refine x_aload_n C rfl rfl (dkAt dk_L_setStart 0 rfl) 1 rfl ?_
  refine x_iconst C (v := (0 : Int32)) (by decide) (dkAt dk_L_setStart 1 rfl) 2 rfl ?_
  refine x_aload_n C rfl rfl (dkAt dk_L_setStart 2 rfl) 3 rfl ?_
  refine x_iload_n C rfl rfl (dkAt dk_L_setStart 3 rfl) 4 rfl ?_
  refine h_cVi C hf (fun r hr => c_X11_setStart hN hr) mw_X11_setStart ln_RL_169 mi_X11_setStart (hN.rc (ci := 11) sh0 rc11) (ro_of (by decide) (by decide) (by decide) (by decide)) rfl rfl (Nat.le_of_ble_eq_true rfl) (dkAt dk_L_setStart 4 rfl) 7 rfl 2 12 rfl rfl (fun v1 M2 hf => ?_) (fun e4 M5 hf => ?_)
  · refine x_i2l C (dkAt dk_L_setStart 5 rfl) 8 rfl ?_
    refine x_last C (hN.sh sh124) (dkAt dk_L_setStart 6 rfl) 9 rfl hf (fun M3 hf => ?_)
    refine x_goto C 18 (dkAt dk_L_setStart 7 rfl) (by decide) ?_
    refine x_iconst C (v := (0 : Int32)) (by decide) (dkAt dk_L_setStart 14 rfl) 19 rfl ?_
    exact x_iret C E hf (by decide) (by decide) (dkAt dk_L_setStart 15 rfl)
  · refine if_then hf (fun hE hf => ?_) (fun hE hf => ?_)
    · subst hE
      refine x_catch C hC hT [] ⟨0, 9, 12, 21⟩ [⟨0, 9, 15, 13⟩] rfl (fun _ h => nomatch h) (by decide) (by decide) (by decide) clk0 ckk0 (fun q6 => ?_)
      refine x_astore_n C (L1 := [some (.ref (wad Γ 0)), some (.int p1), some (.ref (wad Γ 124)), some (.ref q6)]) (dkAt dk_L_setStart 8 rfl) 13 rfl rfl (by decide) rfl ?_
      refine x_iconst C (v := (1 : Int32)) (by decide) (dkAt dk_L_setStart 9 rfl) 14 rfl ?_
      exact x_iret C E hf (by decide) (by decide) (dkAt dk_L_setStart 10 rfl)
    · refine if_then hf (fun hE hf => ?_) (fun hE hf => ?_)
      · subst hE
        refine x_catch C hC hT [⟨0, 9, 12, 21⟩] ⟨0, 9, 15, 13⟩ [] rfl (List.forall_mem_cons.mpr ⟨⟨by decide, 0, by decide, by decide, clk0⟩, (fun _ h => nomatch h)⟩) (by decide) (by decide) (by decide) clk1 ckk1 (fun q7 => ?_)
        refine x_astore_n C (L1 := [some (.ref (wad Γ 0)), some (.int p1), some (.ref (wad Γ 124)), some (.ref q7)]) (dkAt dk_L_setStart 11 rfl) 16 rfl rfl (by decide) rfl ?_
        refine x_iconst C (v := (2 : Int32)) (by decide) (dkAt dk_L_setStart 12 rfl) 17 rfl ?_
        exact x_iret C E hf (by decide) (by decide) (dkAt dk_L_setStart 13 rfl)
      · exact nomatch hf
def f_L_setHorizon (Z : Nat) (M : Mem) (p1 : Int32) : Option (Int32 × Mem) :=
  clT (f_X11_setHorizon Z M p1) (fun v1 M2 => wrL M2 124 1 (0 : Int32) v1.toInt64 (fun M3 => some ((0 : Int32), M3))) (fun e4 M5 => (if e4 = 0 then some ((1 : Int32), M5) else (if e4 = 2 then some ((2 : Int32), M5) else none)))
set_option maxRecDepth 100000 in
theorem c_L_setHorizon {Γ : WC} (hN : HN Γ) (hC : NC Γ) {Z : Nat} {M : Mem} {p1 : Int32} {rM : Int32 × Mem}  (hf : f_L_setHorizon Z M p1 = some rM) : CtW Γ yL_setHorizon cL_setHorizon 4 (some .int) [(0, 9, 12, 21), (0, 9, 15, 15)] (rmL 8 2 12) [.ref (wad Γ 0), .int p1, .ref (wad Γ 124)] M (some (.int rM.1)) rM.2 := by
  refine mkW hN.1 (own := RL) rfl (by decide) (Nat.le_of_ble_eq_true rfl) (fun X C hT E => ?_)
  change G Γ X M 0 0 [some (.ref (wad Γ 0)), some (.int p1), some (.ref (wad Γ 124))] [] 0
  unfold f_L_setHorizon at hf
  refine x_aload_n C rfl rfl (dkAt dk_L_setHorizon 0 rfl) 1 rfl ?_
  refine x_iconst C (v := (0 : Int32)) (by decide) (dkAt dk_L_setHorizon 1 rfl) 2 rfl ?_
  refine x_aload_n C rfl rfl (dkAt dk_L_setHorizon 2 rfl) 3 rfl ?_
  refine x_iload_n C rfl rfl (dkAt dk_L_setHorizon 3 rfl) 4 rfl ?_
  refine h_cVi C hf (fun r hr => c_X11_setHorizon hN hr) mw_X11_setHorizon ln_RL_172 mi_X11_setHorizon (hN.rc (ci := 11) sh0 rc11) (ro_of (by decide) (by decide) (by decide) (by decide)) rfl rfl (Nat.le_of_ble_eq_true rfl) (dkAt dk_L_setHorizon 4 rfl) 7 rfl 2 12 rfl rfl (fun v1 M2 hf => ?_) (fun e4 M5 hf => ?_)
  · refine x_i2l C (dkAt dk_L_setHorizon 5 rfl) 8 rfl ?_
    refine x_last C (hN.sh sh124) (dkAt dk_L_setHorizon 6 rfl) 9 rfl hf (fun M3 hf => ?_)
    refine x_goto C 18 (dkAt dk_L_setHorizon 7 rfl) (by decide) ?_
    refine x_iconst C (v := (0 : Int32)) (by decide) (dkAt dk_L_setHorizon 14 rfl) 19 rfl ?_
    exact x_iret C E hf (by decide) (by decide) (dkAt dk_L_setHorizon 15 rfl)
  · refine if_then hf (fun hE hf => ?_) (fun hE hf => ?_)
    · subst hE
      refine x_catch C hC hT [] ⟨0, 9, 12, 21⟩ [⟨0, 9, 15, 15⟩] rfl (fun _ h => nomatch h) (by decide) (by decide) (by decide) clk0 ckk0 (fun q6 => ?_)
      refine x_astore_n C (L1 := [some (.ref (wad Γ 0)), some (.int p1), some (.ref (wad Γ 124)), some (.ref q6)]) (dkAt dk_L_setHorizon 8 rfl) 13 rfl rfl (by decide) rfl ?_
      refine x_iconst C (v := (1 : Int32)) (by decide) (dkAt dk_L_setHorizon 9 rfl) 14 rfl ?_
      exact x_iret C E hf (by decide) (by decide) (dkAt dk_L_setHorizon 10 rfl)
    · refine if_then hf (fun hE hf => ?_) (fun hE hf => ?_)
      · subst hE
        refine x_catch C hC hT [⟨0, 9, 12, 21⟩] ⟨0, 9, 15, 15⟩ [] rfl (List.forall_mem_cons.mpr ⟨⟨by decide, 0, by decide, by decide, clk0⟩, (fun _ h => nomatch h)⟩) (by decide) (by decide) (by decide) clk2 ckk2 (fun q7 => ?_)
        refine x_astore_n C (L1 := [some (.ref (wad Γ 0)), some (.int p1), some (.ref (wad Γ 124)), some (.ref q7)]) (dkAt dk_L_setHorizon 11 rfl) 16 rfl rfl (by decide) rfl ?_
        refine x_iconst C (v := (2 : Int32)) (by decide) (dkAt dk_L_setHorizon 12 rfl) 17 rfl ?_
        exact x_iret C E hf (by decide) (by decide) (dkAt dk_L_setHorizon 13 rfl)
      · exact nomatch hf
def f_L_walk (Z : Nat) (M : Mem)  : Option (Int32 × Mem) :=
  clT (f_X11_walk Z M) (fun v1 M2 => wrL M2 124 1 (0 : Int32) v1.toInt64 (fun M3 => some ((0 : Int32), M3))) (fun e4 M5 => (if e4 = 0 then some ((1 : Int32), M5) else none))
set_option maxRecDepth 100000 in
theorem c_L_walk {Γ : WC} (hN : HN Γ) (hC : NC Γ) {Z : Nat} {M : Mem}  {rM : Int32 × Mem}  (hf : f_L_walk Z M  = some rM) : CtW Γ yL_walk cL_walk 3 (some .int) [(0, 8, 11, 21)] (rmL 8 1 6) [.ref (wad Γ 0), .ref (wad Γ 124)] M (some (.int rM.1)) rM.2 := by
  refine mkW hN.1 (own := RL) rfl (by decide) (Nat.le_of_ble_eq_true rfl) (fun X C hT E => ?_)
  change G Γ X M 0 0 [some (.ref (wad Γ 0)), some (.ref (wad Γ 124))] [] 0
  unfold f_L_walk at hf
  refine x_aload_n C rfl rfl (dkAt dk_L_walk 0 rfl) 1 rfl ?_
  refine x_iconst C (v := (0 : Int32)) (by decide) (dkAt dk_L_walk 1 rfl) 2 rfl ?_
  refine x_aload_n C rfl rfl (dkAt dk_L_walk 2 rfl) 3 rfl ?_
  refine h_cVi C hf (fun r hr => c_X11_walk hN hr) mw_X11_walk ln_RL_175 mi_X11_walk (hN.rc (ci := 11) sh0 rc11) (ro_of (by decide) (by decide) (by decide) (by decide)) rfl rfl (Nat.le_of_ble_eq_true rfl) (dkAt dk_L_walk 3 rfl) 6 rfl 1 6 rfl rfl (fun v1 M2 hf => ?_) (fun e4 M5 hf => ?_)
  · refine x_i2l C (dkAt dk_L_walk 4 rfl) 7 rfl ?_
    refine x_last C (hN.sh sh124) (dkAt dk_L_walk 5 rfl) 8 rfl hf (fun M3 hf => ?_)
    refine x_goto C 14 (dkAt dk_L_walk 6 rfl) (by decide) ?_
    refine x_iconst C (v := (0 : Int32)) (by decide) (dkAt dk_L_walk 10 rfl) 15 rfl ?_
    exact x_iret C E hf (by decide) (by decide) (dkAt dk_L_walk 11 rfl)
  · refine if_then hf (fun hE hf => ?_) (fun hE hf => ?_)
    · subst hE
      refine x_catch C hC hT [] ⟨0, 8, 11, 21⟩ [] rfl (fun _ h => nomatch h) (by decide) (by decide) (by decide) clk0 ckk0 (fun q6 => ?_)
      refine x_astore_n C (L1 := [some (.ref (wad Γ 0)), some (.ref (wad Γ 124)), some (.ref q6)]) (dkAt dk_L_walk 7 rfl) 12 rfl rfl (by decide) rfl ?_
      refine x_iconst C (v := (1 : Int32)) (by decide) (dkAt dk_L_walk 8 rfl) 13 rfl ?_
      exact x_iret C E hf (by decide) (by decide) (dkAt dk_L_walk 9 rfl)
    · exact nomatch hf
def f_L_undo (Z : Nat) (M : Mem)  : Option (Int32 × Mem) :=
  clT (f_X11_undo Z M) (fun v1 M2 => wrL M2 124 1 (0 : Int32) v1.toInt64 (fun M3 => some ((0 : Int32), M3))) (fun e4 M5 => (if e4 = 0 then some ((1 : Int32), M5) else none))
set_option maxRecDepth 100000 in
theorem c_L_undo {Γ : WC} (hN : HN Γ) (hC : NC Γ) {Z : Nat} {M : Mem}  {rM : Int32 × Mem}  (hf : f_L_undo Z M  = some rM) : CtW Γ yL_undo cL_undo 3 (some .int) [(0, 8, 11, 21)] (rmL 7 1 6) [.ref (wad Γ 0), .ref (wad Γ 124)] M (some (.int rM.1)) rM.2 := by
  refine mkW hN.1 (own := RL) rfl (by decide) (Nat.le_of_ble_eq_true rfl) (fun X C hT E => ?_)
  change G Γ X M 0 0 [some (.ref (wad Γ 0)), some (.ref (wad Γ 124))] [] 0
  unfold f_L_undo at hf
  refine x_aload_n C rfl rfl (dkAt dk_L_undo 0 rfl) 1 rfl ?_
  refine x_iconst C (v := (0 : Int32)) (by decide) (dkAt dk_L_undo 1 rfl) 2 rfl ?_
  refine x_aload_n C rfl rfl (dkAt dk_L_undo 2 rfl) 3 rfl ?_
  refine h_cVi C hf (fun r hr => c_X11_undo hN hr) mw_X11_undo ln_RL_178 mi_X11_undo (hN.rc (ci := 11) sh0 rc11) (ro_of (by decide) (by decide) (by decide) (by decide)) rfl rfl (Nat.le_of_ble_eq_true rfl) (dkAt dk_L_undo 3 rfl) 6 rfl 1 6 rfl rfl (fun v1 M2 hf => ?_) (fun e4 M5 hf => ?_)
  · refine x_i2l C (dkAt dk_L_undo 4 rfl) 7 rfl ?_
    refine x_last C (hN.sh sh124) (dkAt dk_L_undo 5 rfl) 8 rfl hf (fun M3 hf => ?_)
    refine x_goto C 14 (dkAt dk_L_undo 6 rfl) (by decide) ?_
    refine x_iconst C (v := (0 : Int32)) (by decide) (dkAt dk_L_undo 10 rfl) 15 rfl ?_
    exact x_iret C E hf (by decide) (by decide) (dkAt dk_L_undo 11 rfl)
  · refine if_then hf (fun hE hf => ?_) (fun hE hf => ?_)
    · subst hE
      refine x_catch C hC hT [] ⟨0, 8, 11, 21⟩ [] rfl (fun _ h => nomatch h) (by decide) (by decide) (by decide) clk0 ckk0 (fun q6 => ?_)
      refine x_astore_n C (L1 := [some (.ref (wad Γ 0)), some (.ref (wad Γ 124)), some (.ref q6)]) (dkAt dk_L_undo 7 rfl) 12 rfl rfl (by decide) rfl ?_
      refine x_iconst C (v := (1 : Int32)) (by decide) (dkAt dk_L_undo 8 rfl) 13 rfl ?_
      exact x_iret C E hf (by decide) (by decide) (dkAt dk_L_undo 9 rfl)
    · exact nomatch hf
def f_L_save (Z : Nat) (M : Mem) (p1 : Int32) : Option (Int32 × Mem) :=
  clT (f_X11_save Z M p1) (fun v1 M2 => wrL M2 124 1 (0 : Int32) v1.toInt64 (fun M3 => some ((0 : Int32), M3))) (fun e4 M5 => (if e4 = 0 then some ((1 : Int32), M5) else (if e4 = 1 then some ((2 : Int32), M5) else none)))
set_option maxRecDepth 100000 in
theorem c_L_save {Γ : WC} (hN : HN Γ) (hC : NC Γ) {Z : Nat} {M : Mem} {p1 : Int32} {rM : Int32 × Mem}  (hf : f_L_save Z M p1 = some rM) : CtW Γ yL_save cL_save 4 (some .int) [(0, 9, 12, 21), (0, 9, 15, 13)] (rmL 8 2 12) [.ref (wad Γ 0), .int p1, .ref (wad Γ 124)] M (some (.int rM.1)) rM.2 := by
  refine mkW hN.1 (own := RL) rfl (by decide) (Nat.le_of_ble_eq_true rfl) (fun X C hT E => ?_)
  change G Γ X M 0 0 [some (.ref (wad Γ 0)), some (.int p1), some (.ref (wad Γ 124))] [] 0
  unfold f_L_save at hf
  refine x_aload_n C rfl rfl (dkAt dk_L_save 0 rfl) 1 rfl ?_
  refine x_iconst C (v := (0 : Int32)) (by decide) (dkAt dk_L_save 1 rfl) 2 rfl ?_
  refine x_aload_n C rfl rfl (dkAt dk_L_save 2 rfl) 3 rfl ?_
  refine x_iload_n C rfl rfl (dkAt dk_L_save 3 rfl) 4 rfl ?_
  refine h_cVi C hf (fun r hr => c_X11_save hN hr) mw_X11_save ln_RL_181 mi_X11_save (hN.rc (ci := 11) sh0 rc11) (ro_of (by decide) (by decide) (by decide) (by decide)) rfl rfl (Nat.le_of_ble_eq_true rfl) (dkAt dk_L_save 4 rfl) 7 rfl 2 12 rfl rfl (fun v1 M2 hf => ?_) (fun e4 M5 hf => ?_)
  · refine x_i2l C (dkAt dk_L_save 5 rfl) 8 rfl ?_
    refine x_last C (hN.sh sh124) (dkAt dk_L_save 6 rfl) 9 rfl hf (fun M3 hf => ?_)
    refine x_goto C 18 (dkAt dk_L_save 7 rfl) (by decide) ?_
    refine x_iconst C (v := (0 : Int32)) (by decide) (dkAt dk_L_save 14 rfl) 19 rfl ?_
    exact x_iret C E hf (by decide) (by decide) (dkAt dk_L_save 15 rfl)
  · refine if_then hf (fun hE hf => ?_) (fun hE hf => ?_)
    · subst hE
      refine x_catch C hC hT [] ⟨0, 9, 12, 21⟩ [⟨0, 9, 15, 13⟩] rfl (fun _ h => nomatch h) (by decide) (by decide) (by decide) clk0 ckk0 (fun q6 => ?_)
      refine x_astore_n C (L1 := [some (.ref (wad Γ 0)), some (.int p1), some (.ref (wad Γ 124)), some (.ref q6)]) (dkAt dk_L_save 8 rfl) 13 rfl rfl (by decide) rfl ?_
      refine x_iconst C (v := (1 : Int32)) (by decide) (dkAt dk_L_save 9 rfl) 14 rfl ?_
      exact x_iret C E hf (by decide) (by decide) (dkAt dk_L_save 10 rfl)
    · refine if_then hf (fun hE hf => ?_) (fun hE hf => ?_)
      · subst hE
        refine x_catch C hC hT [⟨0, 9, 12, 21⟩] ⟨0, 9, 15, 13⟩ [] rfl (List.forall_mem_cons.mpr ⟨⟨by decide, 0, by decide, by decide, clk0⟩, (fun _ h => nomatch h)⟩) (by decide) (by decide) (by decide) clk1 ckk1 (fun q7 => ?_)
        refine x_astore_n C (L1 := [some (.ref (wad Γ 0)), some (.int p1), some (.ref (wad Γ 124)), some (.ref q7)]) (dkAt dk_L_save 11 rfl) 16 rfl rfl (by decide) rfl ?_
        refine x_iconst C (v := (2 : Int32)) (by decide) (dkAt dk_L_save 12 rfl) 17 rfl ?_
        exact x_iret C E hf (by decide) (by decide) (dkAt dk_L_save 13 rfl)
      · exact nomatch hf
def f_L_restore (Z : Nat) (M : Mem) (p1 : Int32) : Option (Int32 × Mem) :=
  clT (f_X11_restore Z M p1) (fun v1 M2 => wrL M2 124 1 (0 : Int32) v1.toInt64 (fun M3 => some ((0 : Int32), M3))) (fun e4 M5 => (if e4 = 1 then some ((1 : Int32), M5) else (if e4 = 0 then some ((2 : Int32), M5) else none)))
set_option maxRecDepth 100000 in
theorem c_L_restore {Γ : WC} (hN : HN Γ) (hC : NC Γ) {Z : Nat} {M : Mem} {p1 : Int32} {rM : Int32 × Mem}  (hf : f_L_restore Z M p1 = some rM) : CtW Γ yL_restore cL_restore 4 (some .int) [(0, 9, 12, 13), (0, 9, 15, 21)] (rmL 8 2 12) [.ref (wad Γ 0), .int p1, .ref (wad Γ 124)] M (some (.int rM.1)) rM.2 := by
  refine mkW hN.1 (own := RL) rfl (by decide) (Nat.le_of_ble_eq_true rfl) (fun X C hT E => ?_)
  change G Γ X M 0 0 [some (.ref (wad Γ 0)), some (.int p1), some (.ref (wad Γ 124))] [] 0
  unfold f_L_restore at hf
  refine x_aload_n C rfl rfl (dkAt dk_L_restore 0 rfl) 1 rfl ?_
  refine x_iconst C (v := (0 : Int32)) (by decide) (dkAt dk_L_restore 1 rfl) 2 rfl ?_
  refine x_aload_n C rfl rfl (dkAt dk_L_restore 2 rfl) 3 rfl ?_
  refine x_iload_n C rfl rfl (dkAt dk_L_restore 3 rfl) 4 rfl ?_
  refine h_cVi C hf (fun r hr => c_X11_restore hN hr) mw_X11_restore ln_RL_184 mi_X11_restore (hN.rc (ci := 11) sh0 rc11) (ro_of (by decide) (by decide) (by decide) (by decide)) rfl rfl (Nat.le_of_ble_eq_true rfl) (dkAt dk_L_restore 4 rfl) 7 rfl 2 12 rfl rfl (fun v1 M2 hf => ?_) (fun e4 M5 hf => ?_)
  · refine x_i2l C (dkAt dk_L_restore 5 rfl) 8 rfl ?_
    refine x_last C (hN.sh sh124) (dkAt dk_L_restore 6 rfl) 9 rfl hf (fun M3 hf => ?_)
    refine x_goto C 18 (dkAt dk_L_restore 7 rfl) (by decide) ?_
    refine x_iconst C (v := (0 : Int32)) (by decide) (dkAt dk_L_restore 14 rfl) 19 rfl ?_
    exact x_iret C E hf (by decide) (by decide) (dkAt dk_L_restore 15 rfl)
  · refine if_then hf (fun hE hf => ?_) (fun hE hf => ?_)
    · subst hE
      refine x_catch C hC hT [] ⟨0, 9, 12, 13⟩ [⟨0, 9, 15, 21⟩] rfl (fun _ h => nomatch h) (by decide) (by decide) (by decide) clk1 ckk1 (fun q6 => ?_)
      refine x_astore_n C (L1 := [some (.ref (wad Γ 0)), some (.int p1), some (.ref (wad Γ 124)), some (.ref q6)]) (dkAt dk_L_restore 8 rfl) 13 rfl rfl (by decide) rfl ?_
      refine x_iconst C (v := (1 : Int32)) (by decide) (dkAt dk_L_restore 9 rfl) 14 rfl ?_
      exact x_iret C E hf (by decide) (by decide) (dkAt dk_L_restore 10 rfl)
    · refine if_then hf (fun hE hf => ?_) (fun hE hf => ?_)
      · subst hE
        refine x_catch C hC hT [⟨0, 9, 12, 13⟩] ⟨0, 9, 15, 21⟩ [] rfl (List.forall_mem_cons.mpr ⟨⟨by decide, 1, by decide, by decide, clk1⟩, (fun _ h => nomatch h)⟩) (by decide) (by decide) (by decide) clk0 ckk0 (fun q7 => ?_)
        refine x_astore_n C (L1 := [some (.ref (wad Γ 0)), some (.int p1), some (.ref (wad Γ 124)), some (.ref q7)]) (dkAt dk_L_restore 11 rfl) 16 rfl rfl (by decide) rfl ?_
        refine x_iconst C (v := (2 : Int32)) (by decide) (dkAt dk_L_restore 12 rfl) 17 rfl ?_
        exact x_iret C E hf (by decide) (by decide) (dkAt dk_L_restore 13 rfl)
      · exact nomatch hf
