theorem ro_L {n' c k ms' maxL : Nat} (h : n' + 1 ≤ 900) (hm : maxL ≤ 24) (hc : c + k ≤ 290000) (hs : ms' ≤ 6 * k) : RO (rmL n' k ms') room_1 maxL c (6 * c) := by
  refine ⟨?_, ?_, ?_, ?_⟩
  · show n' + 1 + 1 ≤ 2048
    omega
  · show 8 + (maxL + 11) + 44 * (n' + 1) ≤ 84000
    omega
  · show c + k ≤ 600086
    omega
  · show 6 * c + ms' ≤ 7301442
    omega
theorem ro_L2 {n' c ms' maxL : Nat} (h : n' + 1 ≤ 900) (hm : maxL ≤ 24) (hc : c + 400 ≤ 290000) (hs : ms' ≤ 2400 := by decide) : RO (rmL n' 2 ms') room_1 maxL c (6 * c) := by
  refine ⟨?_, ?_, ?_, ?_⟩
  · show n' + 1 + 1 ≤ 2048
    omega
  · show 8 + (maxL + 11) + 44 * (n' + 1) ≤ 84000
    omega
  · show c + 2 ≤ 600086
    omega
  · show 6 * c + ms' ≤ 7301442
    omega
/-- numbers of a list, and the script -/
theorem svN {l ns : List Nat} (hs : ∀ n, n ∈ ns → n ∈ l) {L : List (Option SV)} (hL : L.all (fun o => match o with
  | some (.inr o) => (o == 999 || ns.contains o) && o != 211
  | _ => true) = true) : svL l L := fun v hv => by
  have := List.all_eq_true.mp hL (some v) hv
  cases v with
  | inl v => trivial
  | inr o =>
    have e : (o = 999 ∨ o ∈ ns) ∧ o ≠ 211 := by simpa using this
    exact ⟨e.1.elim Or.inr (fun z => Or.inl (hs o z)), e.2⟩
theorem svN' {l ns : List Nat} (hs : ∀ n, n ∈ ns → n ∈ l) {L : List SV} (hL : L.all (fun o => match o with
  | .inr o => (o == 999 || ns.contains o) && o != 211
  | _ => true) = true) : svS l L := fun v hv => by
  have := List.all_eq_true.mp hL v hv
  cases v with
  | inl v => trivial
  | inr o =>
    have e : (o = 999 ∨ o ∈ ns) ∧ o ≠ 211 := by simpa using this
    exact ⟨e.1.elim Or.inr (fun z => Or.inl (hs o z)), e.2⟩
theorem svB {b : Nat} (hb : 212 ≤ b) {L : List (Option SV)} (hL : L.all (fun o => match o with
  | some (.inr o) => o == 0 || o == 108 || o == 109
  | _ => true) = true) : svL (lB b) L := fun v hv => by
  have := List.all_eq_true.mp hL (some v) hv
  cases v with
  | inl v => trivial
  | inr o =>
    have e : (o = 0 ∨ o = 108) ∨ o = 109 := by simpa using this
    exact ⟨Or.inl ((lB_iff hb).mpr (by omega)), by omega⟩
theorem svB' {b : Nat} (hb : 212 ≤ b) {L : List SV} (hL : L.all (fun o => match o with
  | .inr o => o == 0 || o == 108 || o == 109
  | _ => true) = true) : svS (lB b) L := fun v hv => by
  have := List.all_eq_true.mp hL v hv
  cases v with
  | inl v => trivial
  | inr o =>
    have e : (o = 0 ∨ o = 108) ∨ o = 109 := by simpa using this
    exact ⟨Or.inl ((lB_iff hb).mpr (by omega)), by omega⟩
theorem lb212 : LB (KB 212) (lB 212) := ⟨⟨⟨(lB_iff (by decide)).mpr (by decide), (lB_iff (by decide)).mpr (by decide), lB_nd 212⟩, fun z => absurd ((lB_iff (by decide)).mp z) (by decide)⟩, krB 212, fun M h => ⟨h.1.2.2.1, h.2.2⟩⟩
theorem lB_2 : lB 212 ++ [212] ++ [213] = lB 214 := by rw [lB_1 (by decide), lB_1 (by decide)]
theorem KB.str : ∀ M, KB 212 M → KB 214 (sR M 212 0 (some 213)) := by
  intro M h
  refine ⟨⟨fun a c j hj => ?_, fun a c j hj => ?_, ?_, fun _ => ?_⟩, fun a c j hj => ?_, ⟨fun a c hj => ?_, fun a c hj => ?_⟩⟩
  · rw [gR_sR, if_neg (fun z => ?_)]
    · exact h.1.1 a c j hj
    · rw [z.1] at hj
      have key : srT 212 c = none := by
        unfold srT
        rw [show srL.getD 212 [] = [] by decide +kernel]
        rfl
      rw [key] at hj
      exact nomatch hj
  · rw [gR_sR, if_neg (by have := srV_lo hj; omega)]
    exact h.1.2.1 a c j hj
  · rw [gR_sR, if_neg (by omega)]
    exact h.1.2.2.1
  · rw [gR_sR, if_pos ⟨rfl, rfl⟩]
  · rw [gR_sR] at hj
    split at hj
    · have := Option.some.inj hj
      omega
    · have := h.2.1 a c j hj
      omega
  · rw [gR_sR] at hj
    split at hj
    · have := Option.some.inj hj
      omega
    · exact h.2.2.1 a c hj
  · rw [gR_sR] at hj
    split at hj
    · have := Option.some.inj hj
      omega
    · exact h.2.2.2 a c hj
theorem nlk_RL_268 : NLk RL 268 12 0 2 := ⟨_, _, _, "DecisionChainLaw", rc12, by decide, by decide +kernel, uw12, gd 730 (by decide +kernel) rfl⟩
theorem pkf_RX13_7 : FPk RX13 7 13 0 2 true (fun v => ∃ a, v = .ref a) := ⟨_, _, _, tyX13, rc13, by decide, by decide +kernel, uw13, gd 802 (by decide +kernel) rfl, rfl, (fun _ => rfl), tyX13_ok, nmX13, (fun v h => by obtain ⟨x, rfl⟩ := h; exact ⟨rfl, rfl⟩)⟩
theorem ln_RL_258 : Gd (.methodLink RL 258 yX13_init) := gd 798 (by decide +kernel) rfl
theorem ln_RL_261 : Gd (.methodLink RL 261 yX12_init) := gd 487 (by decide +kernel) rfl
theorem ln_RL_264 : Gd (.methodLink RL 264 yX11_init) := gd 81 (by decide +kernel) rfl
theorem ln_RL_265 : Gd (.methodLink RL 265 yX11_undoable) := gd 481 (by decide +kernel) rfl
theorem ln_RL_272 : Gd (.methodLink RL 272 yJ4_toString_0e30d) := gd 1606 (by decide +kernel) rfl
theorem ln_RL_278 : Gd (.methodLink RL 278 yL_tell) := gd 810 (by decide +kernel) rfl
theorem ln_RL_282 : Gd (.methodLink RL 282 yX11_parseError) := gd 465 (by decide +kernel) rfl
theorem ln_RL_285 : Gd (.methodLink RL 285 yX11_errorPosition) := gd 469 (by decide +kernel) rfl
theorem ln_RL_288 : Gd (.methodLink RL 288 yL_isLike) := gd 1476 (by decide +kernel) rfl
theorem ln_RL_292 : Gd (.methodLink RL 292 yL_flows) := gd 1539 (by decide +kernel) rfl
theorem ln_RL_295 : Gd (.methodLink RL 295 yL_runs) := gd 1551 (by decide +kernel) rfl
theorem ln_RL_298 : Gd (.methodLink RL 298 yL_act) := gd 1503 (by decide +kernel) rfl
theorem mw_L_act : MW yL_act cL_act 10 (some .boolean) 3 := ⟨gd 46 (by decide +kernel) rfl, gd 1505 (by decide +kernel) rfl, ⟨by decide, by decide⟩, by decide +kernel⟩
theorem mw_L_flows : MW yL_flows cL_flows 12 (some .boolean) 2 := ⟨gd 46 (by decide +kernel) rfl, gd 1541 (by decide +kernel) rfl, ⟨by decide, by decide⟩, by decide +kernel⟩
theorem mw_L_isLike : MW yL_isLike cL_isLike 4 (some .boolean) 2 := ⟨gd 46 (by decide +kernel) rfl, gd 1478 (by decide +kernel) rfl, ⟨by decide, by decide⟩, by decide +kernel⟩
theorem mw_L_runs : MW yL_runs cL_runs 11 (some .boolean) 2 := ⟨gd 46 (by decide +kernel) rfl, gd 1553 (by decide +kernel) rfl, ⟨by decide, by decide⟩, by decide +kernel⟩
theorem mw_L_tell : MW yL_tell cL_tell 2 (some .int) 2 := ⟨gd 46 (by decide +kernel) rfl, gd 812 (by decide +kernel) rfl, ⟨by decide, by decide⟩, by decide +kernel⟩
theorem mw_X11_errorPosition : MW yX11_errorPosition cX11_errorPosition 1 (some .int) 0 := ⟨gd 61 (by decide +kernel) rfl, gd 472 (by decide +kernel) rfl, ⟨by decide, by decide⟩, by decide +kernel⟩
theorem mw_X11_init : MW yX11_init cX11_init 5 none 0 := ⟨gd 61 (by decide +kernel) rfl, gd 83 (by decide +kernel) rfl, ⟨by decide, by decide⟩, by decide +kernel⟩
theorem mw_X11_parseError : MW yX11_parseError cX11_parseError 1 (some .int) 0 := ⟨gd 61 (by decide +kernel) rfl, gd 468 (by decide +kernel) rfl, ⟨by decide, by decide⟩, by decide +kernel⟩
theorem mw_X11_undoable : MW yX11_undoable cX11_undoable 1 (some .int) 0 := ⟨gd 61 (by decide +kernel) rfl, gd 484 (by decide +kernel) rfl, ⟨by decide, by decide⟩, by decide +kernel⟩
theorem mw_X12_init : MW yX12_init cX12_init 4 none 1 := ⟨gd 48 (by decide +kernel) rfl, gd 489 (by decide +kernel) rfl, ⟨by decide, by decide⟩, by decide +kernel⟩
theorem mw_X13_init : MW yX13_init cX13_init 2 none 1 := ⟨gd 47 (by decide +kernel) rfl, gd 800 (by decide +kernel) rfl, ⟨by decide, by decide⟩, by decide +kernel⟩
theorem mi_X11_errorPosition : (Gd (.instanceMethod yX11_errorPosition) ∧ Gd (.selects yX11_errorPosition.cls yX11_errorPosition yX11_errorPosition)) := ⟨gd 470 (by decide +kernel) rfl, gd 471 (by decide +kernel) rfl⟩
theorem mi_X11_parseError : (Gd (.instanceMethod yX11_parseError) ∧ Gd (.selects yX11_parseError.cls yX11_parseError yX11_parseError)) := ⟨gd 466 (by decide +kernel) rfl, gd 467 (by decide +kernel) rfl⟩
theorem mi_X11_undoable : (Gd (.instanceMethod yX11_undoable) ∧ Gd (.selects yX11_undoable.cls yX11_undoable yX11_undoable)) := ⟨gd 482 (by decide +kernel) rfl, gd 483 (by decide +kernel) rfl⟩
theorem ms_L_act : Gd (.static yL_act) := gd 1504 (by decide +kernel) rfl
theorem ms_L_flows : Gd (.static yL_flows) := gd 1540 (by decide +kernel) rfl
theorem ms_L_isLike : Gd (.static yL_isLike) := gd 1477 (by decide +kernel) rfl
theorem ms_L_runs : Gd (.static yL_runs) := gd 1552 (by decide +kernel) rfl
theorem ms_L_tell : Gd (.static yL_tell) := gd 811 (by decide +kernel) rfl
theorem kl_RL_196 : Gd (.classLink RL 196 RX13) := gd 796 (by decide +kernel) rfl
theorem ki_13 : Gd (.instantiable RX13 2) := gd 797 (by decide +kernel) rfl
theorem kn_13 : Gd (.initialized RX13) := gd 47 (by decide +kernel) rfl
theorem kd_13 : ∀ k, k < 2 → defaultValue (tyX13 k) = zV (kFd 13 k) := by decide +kernel
theorem kl_RL_134 : Gd (.classLink RL 134 RX12) := gd 485 (by decide +kernel) rfl
theorem ki_12 : Gd (.instantiable RX12 17) := gd 486 (by decide +kernel) rfl
theorem kn_12 : Gd (.initialized RX12) := gd 48 (by decide +kernel) rfl
theorem kd_12 : ∀ k, k < 17 → defaultValue (tyX12 k) = zV (kFd 12 k) := by decide +kernel
theorem kl_RL_18 : Gd (.classLink RL 18 RX11) := gd 79 (by decide +kernel) rfl
theorem ki_11 : Gd (.instantiable RX11 12) := gd 80 (by decide +kernel) rfl
theorem kn_11 : Gd (.initialized RX11) := gd 61 (by decide +kernel) rfl
theorem kd_11 : ∀ k, k < 12 → defaultValue (tyX11 k) = zV (kFd 11 k) := by decide +kernel
theorem lo_RX13_1 : Gd (.methodLink RX13 1 objectInit) := gd 801 (by decide +kernel) rfl
theorem mii_X13_init_ : Gd (.instanceMethod yX13_init) ∧ yX13_init.name = "<init>" := ⟨gd 799 (by decide +kernel) rfl, rfl⟩
theorem mii_X12_init_ : Gd (.instanceMethod yX12_init) ∧ yX12_init.name = "<init>" := ⟨gd 488 (by decide +kernel) rfl, rfl⟩
theorem mii_X11_init_ : Gd (.instanceMethod yX11_init) ∧ yX11_init.name = "<init>" := ⟨gd 82 (by decide +kernel) rfl, rfl⟩
noncomputable def f_L_law_L106 (sh : Nat → Option SE) (Z : Nat) (c : Nat) (M18 : Mem) (k : Int32 → Option (Unit × Mem)) : Nat → Int32 → Int32 → Option (Unit × Mem)
  | 0, _, _ => none
  | n + 1, x19, x20 => bd (gI M18 (109) 1) (fun v21 => (if v21 ≤ x20 then k x19 else rdI M18 111 6 x20 (fun v22 => f_L_law_L106 sh Z c M18 k n (x19 + v22) (x20 + (1 : Int32)))))
noncomputable def f_law_a (sh : Nat → Option SE) (Z : Nat) (kx : Int32 → Mem → Nat → Option (Unit × Mem)) (kr : Mem → Option (Unit × Mem)) (M : Mem) (c : Nat) : Option (Unit × Mem) :=
  (if c + 1 ≤ 290000 then cl (f_L_thrown_26 Z M (0 : Int32) (0 : Int32) (0 : Int32)) (fun v1 M2 => (if v1 = (1 : Int32) then (if (c + 1) + 3 ≤ 290000 then cl (f_L_thrown_0 Z M2 (0 : Int32) (0 : Int32) (0 : Int32)) (fun v4 M5 => (if v4 = (1 : Int32) then (if ((c + 1) + 3) + 1 ≤ 290000 then cl (f_L_thrown_22 Z M5 (0 : Int32) (0 : Int32) (0 : Int32)) (fun v7 M8 => (if v7 = (1 : Int32) then (if (((c + 1) + 3) + 1) + 1 ≤ 290000 then cl (f_L_thrown_16 Z M8 (0 : Int32) (0 : Int32) (0 : Int32)) (fun v10 M11 => (if v10 = (2 : Int32) then (if ((((c + 1) + 3) + 1) + 1) + 0 ≤ 290000 then cl (f_X11_states Z M11) (fun v13 M14 => (if v13 = 0 then (if ((((c + 1) + 3) + 1) + 1) + 0 ≤ 290000 then cl (f_X11_horizon Z M14) (fun v15 M16 => (if v15 = 0 then (if ((((c + 1) + 3) + 1) + 1) + 0 ≤ 290000 then cl (f_X11_undoable Z M16) (fun v17 M18 => (if v17 = 0 then f_L_law_L106 sh Z c M18 (fun (y23 : Int32) => kx y23 M18 ((((c + 1) + 3) + 1) + 1)) Z (0 : Int32) (0 : Int32) else none)) else none) else none)) else none) else none)) else none) else none)) else none) else none)) else none) else none)) else none) else none)) else none)
set_option maxRecDepth 100000 in
theorem l_L_law_L106 {Γ : WC} {X : MX} {sh : Nat → Option SE} (hN : HN Γ) (hC : NC Γ) (hF : HF Γ) (hL : HLa Γ sh) (C : CX Γ X cL_law 6 RL (some .boolean) room_1) {rM : Unit × Mem} (E : True) {Z : Nat} {c : Nat} {M18 : Mem} {k : Int32 → Option (Unit × Mem)} (hk : ∀ (a4 : Int32), k a4 = some rM → G Γ X M18 ((((c + 1) + 3) + 1) + 1) (6 * ((((c + 1) + 3) + 1) + 1)) [none, some (.ref (wad Γ 108)), some (.ref (wad Γ 109)), some (.ref (wad Γ 0)), some (.int a4)] [] 133) : ∀ (n : Nat) (x19 : Int32) (x20 : Int32), f_L_law_L106 sh Z c M18 k n x19 x20 = some rM → G Γ X M18 ((((c + 1) + 3) + 1) + 1) (6 * ((((c + 1) + 3) + 1) + 1)) [none, some (.ref (wad Γ 108)), some (.ref (wad Γ 109)), some (.ref (wad Γ 0)), some (.int x19), some (.int x20)] [] 106 := by
  intro n
  induction n with
  | zero =>
    intro x19 x20 hf
    have hf0 : (none : Option _) = some rM := hf
    cases hf0
  | succ n ih =>
    intro x19 x20 hf
    rw [f_L_law_L106] at hf
    refine x_iload C rfl (dkAt dk_L_law_1 13 rfl) 108 rfl ?_
    refine x_aload_n C rfl rfl (dkAt dk_L_law_1 14 rfl) 109 rfl ?_
    refine x_getIn C nlk_RL_133 (hL.2.1 109 (18, 17) rfl) (dkAt dk_L_law_1 15 rfl) 112 rfl hf (fun v21 hf => ?_)
    refine x_icmp_ge C 133 (dkAt dk_L_law_1 16 rfl) 115 rfl (by decide) hf (fun hf => ?_) (fun hf => ?_)
    · exact G.weak (L := [none, some (.ref (wad Γ 108)), some (.ref (wad Γ 109)), some (.ref (wad Γ 0)), some (.int x19)]) ⟨rfl, rfl, rfl, rfl, trivial⟩ (hk _ hf)
    · refine x_iload C rfl (dkAt dk_L_law_1 17 rfl) 117 rfl ?_
      refine x_aload_n C rfl rfl (dkAt dk_L_law_1 18 rfl) 118 rfl ?_
      refine x_getSn C nlk_RL_161 (hL.2.1 109 (18, 17) rfl) (hL.2.2.2 109 7 111 rfl) (dkAt dk_L_law_1 19 rfl) 121 rfl ?_
      refine x_iload C rfl (dkAt dk_L_law_1 20 rfl) 123 rfl ?_
      refine x_iald C (hL.2.1 111 (0, 6) rfl) (dkAt dk_L_law_1 21 rfl) 124 rfl hf (fun v22 hf => ?_)
      refine x_iadd C (dkAt dk_L_law_1 22 rfl) 125 rfl ?_
      refine x_istore C (L1 := [none, some (.ref (wad Γ 108)), some (.ref (wad Γ 109)), some (.ref (wad Γ 0)), some (.int (x19 + v22)), some (.int x20)]) (dkAt dk_L_law_1 23 rfl) 127 rfl (by decide) rfl ?_
      refine x_iinc C (v := (x20 + (1 : Int32))) (L1 := [none, some (.ref (wad Γ 108)), some (.ref (wad Γ 109)), some (.ref (wad Γ 0)), some (.int (x19 + v22)), some (.int (x20 + (1 : Int32)))]) (dkAt dk_L_law_1 24 rfl) 130 rfl rfl rfl (by decide) rfl ?_
      refine x_goto C 106 (dkAt dk_L_law_1 25 rfl) (by decide) ?_
      exact G.weak (L := [none, some (.ref (wad Γ 108)), some (.ref (wad Γ 109)), some (.ref (wad Γ 0)), some (.int (x19 + v22)), some (.int (x20 + (1 : Int32)))]) ⟨rfl, rfl, rfl, rfl, rfl, trivial⟩ (ih _ _ hf)
set_option maxRecDepth 100000 in
theorem s_law_a {Γ : WC} {X : MX} {sh : Nat → Option SE} (hN : HN Γ) (hC : NC Γ) (hF : HF Γ) (hL : HLa Γ sh) (C : CX Γ X cL_law 6 RL (some .boolean) room_1) {rM : Unit × Mem} (E : True) {Z : Nat} {kx : Int32 → Mem → Nat → Option (Unit × Mem)} {kr : Mem → Option (Unit × Mem)} (hkx : ∀ (a4 : Int32) (Mx : Mem) (cx : Nat), kx a4 Mx cx = some rM → G Γ X Mx cx (6 * cx) [none, some (.ref (wad Γ 108)), some (.ref (wad Γ 109)), some (.ref (wad Γ 0)), some (.int a4)] [.ref (wad Γ 210), .ref (wad Γ 0)] 138) (hend : ∀ (pc : Nat) (Mx : Mem) (cx : Nat) (Lx : List (Option Value)), decode cL_law pc = .ok (.ireturn, 1) → cx ≤ 290000 → kr Mx = some rM → G Γ X Mx cx (6 * cx) Lx [.int (1 : Int32)] pc) {M : Mem} {c : Nat} (hf : f_law_a sh Z kx kr M c = some rM) : G Γ X M c (6 * c) [none, some (.ref (wad Γ 108)), some (.ref (wad Γ 109)), some (.ref (wad Γ 0))] [] 26 := by
  unfold f_law_a at hf
  refine x_aload_n C rfl rfl (dkAt dk_L_law_0 14 rfl) 27 rfl ?_
  refine x_bipush C (v := (26 : Int32)) (by decide) (dkAt dk_L_law_0 15 rfl) 29 rfl ?_
  refine x_iconst C (v := (0 : Int32)) (by decide) (dkAt dk_L_law_0 16 rfl) 30 rfl ?_
  refine x_iconst C (v := (0 : Int32)) (by decide) (dkAt dk_L_law_0 17 rfl) 31 rfl ?_
  refine x_iconst C (v := (0 : Int32)) (by decide) (dkAt dk_L_law_0 18 rfl) 32 rfl ?_
  obtain ⟨hc, hf⟩ := if_some hf
  obtain ⟨v1, M2, h3, hf⟩ := cl_inv hf
  refine x_cW C (c_L_thrown_26 hN hC h3) mww_L_thrown ln_RL_191 (ro_L (k := 1) (by decide) (by decide) hc (by decide)) rfl rfl (Nat.le_of_ble_eq_true rfl) (dkAt dk_L_law_0 19 rfl) 35 rfl (c + 1) (6 * (c + 1)) rfl (by show 6 * c + 6 = _; omega) ?_
  refine x_iconst C (v := (1 : Int32)) (by decide) (dkAt dk_L_law_0 20 rfl) 36 rfl ?_
  refine x_icmp_ne C 98 (dkAt dk_L_law_0 21 rfl) 39 rfl (by decide) hf (fun hf => ?_) (fun hf => ?_)
  · refine x_iconst C (v := (0 : Int32)) (by decide) (dkAt dk_L_law_1 7 rfl) 99 rfl ?_
    exact nomatch hf
  · refine x_aload_n C rfl rfl (dkAt dk_L_law_0 22 rfl) 40 rfl ?_
    refine x_iconst C (v := (0 : Int32)) (by decide) (dkAt dk_L_law_0 23 rfl) 41 rfl ?_
    refine x_iconst C (v := (0 : Int32)) (by decide) (dkAt dk_L_law_0 24 rfl) 42 rfl ?_
    refine x_iconst C (v := (0 : Int32)) (by decide) (dkAt dk_L_law_0 25 rfl) 43 rfl ?_
    refine x_iconst C (v := (0 : Int32)) (by decide) (dkAt dk_L_law_0 26 rfl) 44 rfl ?_
    obtain ⟨hc, hf⟩ := if_some hf
    obtain ⟨v4, M5, h6, hf⟩ := cl_inv hf
    refine x_cW C (c_L_thrown_0 hN hC h6) mww_L_thrown ln_RL_191 (ro_L (k := 3) (by decide) (by decide) hc (by decide)) rfl rfl (Nat.le_of_ble_eq_true rfl) (dkAt dk_L_law_0 27 rfl) 47 rfl ((c + 1) + 3) (6 * ((c + 1) + 3)) rfl (by show 6 * (c + 1) + 18 = _; omega) ?_
    refine x_iconst C (v := (1 : Int32)) (by decide) (dkAt dk_L_law_0 28 rfl) 48 rfl ?_
    refine x_icmp_ne C 98 (dkAt dk_L_law_0 29 rfl) 51 rfl (by decide) hf (fun hf => ?_) (fun hf => ?_)
    · refine x_iconst C (v := (0 : Int32)) (by decide) (dkAt dk_L_law_1 7 rfl) 99 rfl ?_
      exact nomatch hf
    · refine x_aload_n C rfl rfl (dkAt dk_L_law_0 30 rfl) 52 rfl ?_
      refine x_bipush C (v := (22 : Int32)) (by decide) (dkAt dk_L_law_0 31 rfl) 54 rfl ?_
      refine x_iconst C (v := (0 : Int32)) (by decide) (dkAt dk_L_law_0 32 rfl) 55 rfl ?_
      refine x_iconst C (v := (0 : Int32)) (by decide) (dkAt dk_L_law_0 33 rfl) 56 rfl ?_
      refine x_iconst C (v := (0 : Int32)) (by decide) (dkAt dk_L_law_0 34 rfl) 57 rfl ?_
      obtain ⟨hc, hf⟩ := if_some hf
      obtain ⟨v7, M8, h9, hf⟩ := cl_inv hf
      refine x_cW C (c_L_thrown_22 hN hC h9) mww_L_thrown ln_RL_191 (ro_L (k := 1) (by decide) (by decide) hc (by decide)) rfl rfl (Nat.le_of_ble_eq_true rfl) (dkAt dk_L_law_0 35 rfl) 60 rfl (((c + 1) + 3) + 1) (6 * (((c + 1) + 3) + 1)) rfl (by show 6 * ((c + 1) + 3) + 6 = _; omega) ?_
      refine x_iconst C (v := (1 : Int32)) (by decide) (dkAt dk_L_law_0 36 rfl) 61 rfl ?_
      refine x_icmp_ne C 98 (dkAt dk_L_law_0 37 rfl) 64 rfl (by decide) hf (fun hf => ?_) (fun hf => ?_)
      · refine x_iconst C (v := (0 : Int32)) (by decide) (dkAt dk_L_law_1 7 rfl) 99 rfl ?_
        exact nomatch hf
      · refine x_aload_n C rfl rfl (dkAt dk_L_law_0 38 rfl) 65 rfl ?_
        refine x_bipush C (v := (16 : Int32)) (by decide) (dkAt dk_L_law_0 39 rfl) 67 rfl ?_
        refine x_iconst C (v := (0 : Int32)) (by decide) (dkAt dk_L_law_0 40 rfl) 68 rfl ?_
        refine x_iconst C (v := (0 : Int32)) (by decide) (dkAt dk_L_law_0 41 rfl) 69 rfl ?_
        refine x_iconst C (v := (0 : Int32)) (by decide) (dkAt dk_L_law_0 42 rfl) 70 rfl ?_
        obtain ⟨hc, hf⟩ := if_some hf
        obtain ⟨v10, M11, h12, hf⟩ := cl_inv hf
        refine x_cW C (c_L_thrown_16 hN hC h12) mww_L_thrown ln_RL_191 (ro_L (k := 1) (by decide) (by decide) hc (by decide)) rfl rfl (Nat.le_of_ble_eq_true rfl) (dkAt dk_L_law_0 43 rfl) 73 rfl ((((c + 1) + 3) + 1) + 1) (6 * ((((c + 1) + 3) + 1) + 1)) rfl (by show 6 * (((c + 1) + 3) + 1) + 6 = _; omega) ?_
        refine x_iconst C (v := (2 : Int32)) (by decide) (dkAt dk_L_law_0 44 rfl) 74 rfl ?_
        refine x_icmp_ne C 98 (dkAt dk_L_law_0 45 rfl) 77 rfl (by decide) hf (fun hf => ?_) (fun hf => ?_)
        · refine x_iconst C (v := (0 : Int32)) (by decide) (dkAt dk_L_law_1 7 rfl) 99 rfl ?_
          exact nomatch hf
        · refine x_aload_n C rfl rfl (dkAt dk_L_law_0 46 rfl) 78 rfl ?_
          obtain ⟨hc, hf⟩ := if_some hf
          obtain ⟨v13, M14, h26, hf⟩ := cl_inv hf
          refine x_cVi C (c_X11_states hN h26) mw_X11_states ln_RL_130 mi_X11_states (hN.rc (ci := 11) sh0 rc11) (ro_L (k := 0) (by decide) (by decide) hc (by decide)) rfl rfl (Nat.le_of_ble_eq_true rfl) (dkAt dk_L_law_0 47 rfl) 81 rfl ((((c + 1) + 3) + 1) + 1) (6 * ((((c + 1) + 3) + 1) + 1)) rfl (by show 6 * ((((c + 1) + 3) + 1) + 1) + 0 = _; omega) ?_
          refine x_if_ne C 98 (dkAt dk_L_law_1 0 rfl) 84 rfl (by decide) hf (fun hf => ?_) (fun hf => ?_)
          · refine x_iconst C (v := (0 : Int32)) (by decide) (dkAt dk_L_law_1 7 rfl) 99 rfl ?_
            exact nomatch hf
          · refine x_aload_n C rfl rfl (dkAt dk_L_law_1 1 rfl) 85 rfl ?_
            obtain ⟨hc, hf⟩ := if_some hf
            obtain ⟨v15, M16, h25, hf⟩ := cl_inv hf
            refine x_cVi C (c_X11_horizon hN h25) mw_X11_horizon ln_RL_143 mi_X11_horizon (hN.rc (ci := 11) sh0 rc11) (ro_L (k := 0) (by decide) (by decide) hc (by decide)) rfl rfl (Nat.le_of_ble_eq_true rfl) (dkAt dk_L_law_1 2 rfl) 88 rfl ((((c + 1) + 3) + 1) + 1) (6 * ((((c + 1) + 3) + 1) + 1)) rfl (by show 6 * ((((c + 1) + 3) + 1) + 1) + 0 = _; omega) ?_
            refine x_if_ne C 98 (dkAt dk_L_law_1 3 rfl) 91 rfl (by decide) hf (fun hf => ?_) (fun hf => ?_)
            · refine x_iconst C (v := (0 : Int32)) (by decide) (dkAt dk_L_law_1 7 rfl) 99 rfl ?_
              exact nomatch hf
            · refine x_aload_n C rfl rfl (dkAt dk_L_law_1 4 rfl) 92 rfl ?_
              obtain ⟨hc, hf⟩ := if_some hf
              obtain ⟨v17, M18, h24, hf⟩ := cl_inv hf
              refine x_cVi C (c_X11_undoable hN h24) mw_X11_undoable ln_RL_265 mi_X11_undoable (hN.rc (ci := 11) sh0 rc11) (ro_L (k := 0) (by decide) (by decide) hc (by decide)) rfl rfl (Nat.le_of_ble_eq_true rfl) (dkAt dk_L_law_1 5 rfl) 95 rfl ((((c + 1) + 3) + 1) + 1) (6 * ((((c + 1) + 3) + 1) + 1)) rfl (by show 6 * ((((c + 1) + 3) + 1) + 1) + 0 = _; omega) ?_
              refine x_if_eq C 100 (dkAt dk_L_law_1 6 rfl) 98 rfl (by decide) hf (fun hf => ?_) (fun hf => ?_)
              · refine x_iconst C (v := (0 : Int32)) (by decide) (dkAt dk_L_law_1 9 rfl) 101 rfl ?_
                refine x_istore C (L1 := [none, some (.ref (wad Γ 108)), some (.ref (wad Γ 109)), some (.ref (wad Γ 0)), some (.int (0 : Int32))]) (dkAt dk_L_law_1 10 rfl) 103 rfl (by decide) rfl ?_
                refine x_iconst C (v := (0 : Int32)) (by decide) (dkAt dk_L_law_1 11 rfl) 104 rfl ?_
                refine x_istore C (L1 := [none, some (.ref (wad Γ 108)), some (.ref (wad Γ 109)), some (.ref (wad Γ 0)), some (.int (0 : Int32)), some (.int (0 : Int32))]) (dkAt dk_L_law_1 12 rfl) 106 rfl (by decide) rfl ?_
                refine G.weak (L := [none, some (.ref (wad Γ 108)), some (.ref (wad Γ 109)), some (.ref (wad Γ 0)), some (.int (0 : Int32)), some (.int (0 : Int32))]) ⟨rfl, rfl, rfl, rfl, rfl, trivial⟩ ?_
                refine l_L_law_L106 hN hC hF hL C E ?_ Z _ _ hf
                intro y23 hf
                refine x_aload_n C rfl rfl (dkAt dk_L_law_1 26 rfl) 134 rfl ?_
                refine x_aload_n C rfl rfl (dkAt dk_L_law_1 27 rfl) 135 rfl ?_
                refine x_getSn C nlk_RL_268 (hL.2.1 109 (18, 17) rfl) (hL.2.2.2 109 0 210 rfl) (dkAt dk_L_law_1 28 rfl) 138 rfl ?_
                exact G.weak (L := [none, some (.ref (wad Γ 108)), some (.ref (wad Γ 109)), some (.ref (wad Γ 0)), some (.int y23)]) ⟨rfl, rfl, rfl, rfl, trivial⟩ (hkx _ _ _ hf)
              · refine x_iconst C (v := (0 : Int32)) (by decide) (dkAt dk_L_law_1 7 rfl) 99 rfl ?_
                exact nomatch hf
noncomputable def f_law_b (sh : Nat → Option SE) (Z : Nat) (LX : Nat) (xs : Nat → Int32) (a4 : Int32) (kx : Int32 → Mem → Nat → Option (Unit × Mem)) (M : Mem) (c : Nat) : Option (Unit × Mem) :=
  (if c + 460 ≤ 290000 then cl (f_L_tell sh Z M) (fun v1 M2 => (if v1 = a4 then (if (c + 460) + 0 ≤ 290000 then cl (f_X11_parseError Z M2) (fun v4 M5 => (if v4 = 0 then (if (c + 460) + 0 ≤ 290000 then cl (f_X11_errorPosition Z M5) (fun v6 M7 => (if v6 = (-1 : Int32) then (if (c + 460) + 220 ≤ 290000 then cl (f_L_isLike sh Z M7) (fun v8 M9 => (if v8 = 0 then none else (if ((c + 460) + 220) + 0 ≤ 290000 then cl (f_X13_next LX xs M9 (1 : Int32) (7 : Int32)) (fun v11 M12 => kx v11 M12 ((c + 460) + 220)) else none))) else none) else none)) else none) else none)) else none) else none)) else none)
set_option maxRecDepth 100000 in
theorem s_law_b {Γ : WC} {X : MX} {sh : Nat → Option SE} (hN : HN Γ) (hC : NC Γ) (hF : HF Γ) (hL : HLa Γ sh) (hS : HTX Γ) {b : Nat} {LX : Nat} {xs : Nat → Int32} (hX : HX Γ b LX xs) (C : CX Γ X cL_law 6 RL (some .boolean) room_1) {rM : Unit × Mem} (E : True) {Z : Nat} {a4 : Int32} {kx : Int32 → Mem → Nat → Option (Unit × Mem)} (hkx : ∀ (a5 : Int32) (Mx : Mem) (cx : Nat), kx a5 Mx cx = some rM → G Γ X Mx cx (6 * cx) [none, some (.ref (wad Γ 108)), some (.ref (wad Γ 109)), some (.ref (wad Γ 0)), none, some (.int a5)] [] 183) {M : Mem} {c : Nat} (hf : f_law_b sh Z LX xs a4 kx M c = some rM) : G Γ X M c (6 * c) [none, some (.ref (wad Γ 108)), some (.ref (wad Γ 109)), some (.ref (wad Γ 0)), some (.int a4)] [.ref (wad Γ 212), .ref (wad Γ 0)] 141 := by
  unfold f_law_b at hf
  obtain ⟨hc, hf⟩ := if_some hf
  obtain ⟨v1, M2, h3, hf⟩ := cl_inv hf
  refine x_cSi C (c_L_tell hN hC hF hL hS h3) mw_L_tell ln_RL_278 ms_L_tell (ro_L (k := 460) (by decide) (by decide) hc (by decide)) rfl rfl (Nat.le_of_ble_eq_true rfl) (dkAt dk_L_law_1 30 rfl) 144 rfl (c + 460) (6 * (c + 460)) rfl (Nat.mul_add _ _ _).symm ?_
  change G Γ X M2 (c + 460) (6 * (c + 460)) [none, some (.ref (wad Γ 108)), some (.ref (wad Γ 109)), some (.ref (wad Γ 0)), some (.int a4)] [.int v1] 144
  refine x_iload C rfl (dkAt dk_L_law_1 31 rfl) 146 rfl ?_
  refine x_icmp_ne C 172 (dkAt dk_L_law_1 32 rfl) 149 rfl (by decide) hf (fun hf => ?_) (fun hf => ?_)
  · refine x_iconst C (v := (0 : Int32)) (by decide) (dkAt dk_L_law_1 44 rfl) 173 rfl ?_
    exact nomatch hf
  · refine x_aload_n C rfl rfl (dkAt dk_L_law_1 33 rfl) 150 rfl ?_
    obtain ⟨hc, hf⟩ := if_some hf
    obtain ⟨v4, M5, h15, hf⟩ := cl_inv hf
    refine x_cVi C (c_X11_parseError hN h15) mw_X11_parseError ln_RL_282 mi_X11_parseError (hN.rc (ci := 11) sh0 rc11) (ro_L (k := 0) (by decide) (by decide) hc (by decide)) rfl rfl (Nat.le_of_ble_eq_true rfl) (dkAt dk_L_law_1 34 rfl) 153 rfl (c + 460) (6 * (c + 460)) rfl (by show 6 * (c + 460) + 0 = _; omega) ?_
    refine x_if_ne C 172 (dkAt dk_L_law_1 35 rfl) 156 rfl (by decide) hf (fun hf => ?_) (fun hf => ?_)
    · refine x_iconst C (v := (0 : Int32)) (by decide) (dkAt dk_L_law_1 44 rfl) 173 rfl ?_
      exact nomatch hf
    · refine x_aload_n C rfl rfl (dkAt dk_L_law_1 36 rfl) 157 rfl ?_
      obtain ⟨hc, hf⟩ := if_some hf
      obtain ⟨v6, M7, h14, hf⟩ := cl_inv hf
      refine x_cVi C (c_X11_errorPosition hN h14) mw_X11_errorPosition ln_RL_285 mi_X11_errorPosition (hN.rc (ci := 11) sh0 rc11) (ro_L (k := 0) (by decide) (by decide) hc (by decide)) rfl rfl (Nat.le_of_ble_eq_true rfl) (dkAt dk_L_law_1 37 rfl) 160 rfl (c + 460) (6 * (c + 460)) rfl (by show 6 * (c + 460) + 0 = _; omega) ?_
      refine x_iconst C (v := (-1 : Int32)) (by decide) (dkAt dk_L_law_1 38 rfl) 161 rfl ?_
      refine x_icmp_ne C 172 (dkAt dk_L_law_1 39 rfl) 164 rfl (by decide) hf (fun hf => ?_) (fun hf => ?_)
      · refine x_iconst C (v := (0 : Int32)) (by decide) (dkAt dk_L_law_1 44 rfl) 173 rfl ?_
        exact nomatch hf
      · refine x_aload_n C rfl rfl (dkAt dk_L_law_1 40 rfl) 165 rfl ?_
        refine x_aload_n C rfl rfl (dkAt dk_L_law_1 41 rfl) 166 rfl ?_
        obtain ⟨hc, hf⟩ := if_some hf
        obtain ⟨v8, M9, h10, hf⟩ := cl_inv hf
        refine x_cSi C (c_L_isLike hN hC hF hL h10) mw_L_isLike ln_RL_288 ms_L_isLike (ro_L (k := 220) (by decide) (by decide) hc (by decide)) rfl rfl (Nat.le_of_ble_eq_true rfl) (dkAt dk_L_law_1 42 rfl) 169 rfl ((c + 460) + 220) (6 * ((c + 460) + 220)) rfl (Nat.mul_add _ _ _).symm ?_
        change G Γ X M9 ((c + 460) + 220) (6 * ((c + 460) + 220)) [none, some (.ref (wad Γ 108)), some (.ref (wad Γ 109)), some (.ref (wad Γ 0)), some (.int a4)] [.int v8] 169
        refine x_if_ne C 174 (dkAt dk_L_law_1 43 rfl) 172 rfl (by decide) hf (fun hf => ?_) (fun hf => ?_)
        · refine x_aload_n C rfl rfl (dkAt dk_L_law_1 46 rfl) 175 rfl ?_
          refine x_iconst C (v := (1 : Int32)) (by decide) (dkAt dk_L_law_1 47 rfl) 176 rfl ?_
          refine x_bipush C (v := (7 : Int32)) (by decide) (dkAt dk_L_law_2 0 rfl) 178 rfl ?_
          obtain ⟨hc, hf⟩ := if_some hf
          obtain ⟨v11, M12, h13, hf⟩ := cl_inv hf
          refine x_cVi C (c_X13_next hL hX h13) mw_X13_next ln_RL_195 mi_X13_next (show RC _ 108 RX13 from ⟨13, 2, _, (hL.2.1 108 (19, 2) rfl), rc13, rfl⟩) (ro_L (k := 0) (by decide) (by decide) hc (Nat.zero_le _)) rfl rfl (Nat.le_of_ble_eq_true rfl) (dkAt dk_L_law_2 1 rfl) 181 rfl _ _ rfl rfl ?_
          change G Γ X M12 ((c + 460) + 220) (6 * ((c + 460) + 220)) [none, some (.ref (wad Γ 108)), some (.ref (wad Γ 109)), some (.ref (wad Γ 0)), some (.int a4)] [.int v11] 181
          refine x_istore C (L1 := [none, some (.ref (wad Γ 108)), some (.ref (wad Γ 109)), some (.ref (wad Γ 0)), some (.int a4), some (.int v11)]) (dkAt dk_L_law_2 2 rfl) 183 rfl (by decide) rfl ?_
          exact G.weak (L := [none, some (.ref (wad Γ 108)), some (.ref (wad Γ 109)), some (.ref (wad Γ 0)), none, some (.int v11)]) ⟨rfl, rfl, rfl, rfl, trivial⟩ (hkx _ _ _ hf)
        · refine x_iconst C (v := (0 : Int32)) (by decide) (dkAt dk_L_law_1 44 rfl) 173 rfl ?_
          exact nomatch hf
noncomputable def f_law_c (sh : Nat → Option SE) (Z : Nat) (t5 : Int32) (k1 : Mem → Nat → Option (Unit × Mem)) (k2 : Int32 → Mem → Nat → Option (Unit × Mem)) (M : Mem) (c : Nat) : Option (Unit × Mem) :=
  (if t5 ≤ 0 then k1 M c else (if c + 700 ≤ 290000 then cl (f_L_flows sh Z M) (fun v1 M2 => (if v1 = 0 then none else (if (c + 700) + 700 ≤ 290000 then cl (f_L_runs sh Z M2) (fun v4 M5 => (if v4 = 0 then none else k2 t5 M5 ((c + 700) + 700))) else none))) else none))
set_option maxRecDepth 100000 in
theorem s_law_c {Γ : WC} {X : MX} {sh : Nat → Option SE} (hN : HN Γ) (hC : NC Γ) (hF : HF Γ) (hL : HLa Γ sh) (C : CX Γ X cL_law 6 RL (some .boolean) room_1) {rM : Unit × Mem} (E : True) {Z : Nat} {t5 : Int32} {k1 : Mem → Nat → Option (Unit × Mem)} {k2 : Int32 → Mem → Nat → Option (Unit × Mem)} (hk1 : ∀ (Mx : Mem) (cx : Nat), k1 Mx cx = some rM → G Γ X Mx cx (6 * cx) [none, none, some (.ref (wad Γ 109)), some (.ref (wad Γ 0))] [] 229) (hk2 : ∀ (a5 : Int32) (Mx : Mem) (cx : Nat), k2 a5 Mx cx = some rM → G Γ X Mx cx (6 * cx) [none, some (.ref (wad Γ 108)), some (.ref (wad Γ 109)), some (.ref (wad Γ 0)), none, some (.int a5)] [.ref (wad Γ 108), .ref (wad Γ 109), .ref (wad Γ 0)] 207) {M : Mem} {c : Nat} (hf : f_law_c sh Z t5 k1 k2 M c = some rM) : G Γ X M c (6 * c) [none, some (.ref (wad Γ 108)), some (.ref (wad Γ 109)), some (.ref (wad Γ 0)), none, some (.int t5)] [] 183 := by
  unfold f_law_c at hf
  refine x_iload C rfl (dkAt dk_L_law_2 3 rfl) 185 rfl ?_
  refine x_if_le C 229 (dkAt dk_L_law_2 4 rfl) 188 rfl (by decide) hf (fun hf => ?_) (fun hf => ?_)
  · exact G.weak (L := [none, none, some (.ref (wad Γ 109)), some (.ref (wad Γ 0))]) ⟨rfl, rfl, trivial⟩ (hk1 _ _ hf)
  · refine x_aload_n C rfl rfl (dkAt dk_L_law_2 5 rfl) 189 rfl ?_
    refine x_aload_n C rfl rfl (dkAt dk_L_law_2 6 rfl) 190 rfl ?_
    obtain ⟨hc, hf⟩ := if_some hf
    obtain ⟨v1, M2, h3, hf⟩ := cl_inv hf
    refine x_cSi C (c_L_flows hN hC hF hL h3) mw_L_flows ln_RL_292 ms_L_flows (ro_L (k := 700) (by decide) (by decide) hc (by decide)) rfl rfl (Nat.le_of_ble_eq_true rfl) (dkAt dk_L_law_2 7 rfl) 193 rfl (c + 700) (6 * (c + 700)) rfl (Nat.mul_add _ _ _).symm ?_
    change G Γ X M2 (c + 700) (6 * (c + 700)) [none, some (.ref (wad Γ 108)), some (.ref (wad Γ 109)), some (.ref (wad Γ 0)), none, some (.int t5)] [.int v1] 193
    refine x_if_eq C 221 (dkAt dk_L_law_2 8 rfl) 196 rfl (by decide) hf (fun hf => ?_) (fun hf => ?_)
    · refine x_iconst C (v := (0 : Int32)) (by decide) (dkAt dk_L_law_2 22 rfl) 222 rfl ?_
      exact nomatch hf
    · refine x_aload_n C rfl rfl (dkAt dk_L_law_2 9 rfl) 197 rfl ?_
      refine x_aload_n C rfl rfl (dkAt dk_L_law_2 10 rfl) 198 rfl ?_
      obtain ⟨hc, hf⟩ := if_some hf
      obtain ⟨v4, M5, h6, hf⟩ := cl_inv hf
      refine x_cSi C (c_L_runs hN hC hF hL h6) mw_L_runs ln_RL_295 ms_L_runs (ro_L (k := 700) (by decide) (by decide) hc (by decide)) rfl rfl (Nat.le_of_ble_eq_true rfl) (dkAt dk_L_law_2 11 rfl) 201 rfl ((c + 700) + 700) (6 * ((c + 700) + 700)) rfl (Nat.mul_add _ _ _).symm ?_
      change G Γ X M5 ((c + 700) + 700) (6 * ((c + 700) + 700)) [none, some (.ref (wad Γ 108)), some (.ref (wad Γ 109)), some (.ref (wad Γ 0)), none, some (.int t5)] [.int v4] 201
      refine x_if_eq C 221 (dkAt dk_L_law_2 12 rfl) 204 rfl (by decide) hf (fun hf => ?_) (fun hf => ?_)
      · refine x_iconst C (v := (0 : Int32)) (by decide) (dkAt dk_L_law_2 22 rfl) 222 rfl ?_
        exact nomatch hf
      · refine x_aload_n C rfl rfl (dkAt dk_L_law_2 13 rfl) 205 rfl ?_
        refine x_aload_n C rfl rfl (dkAt dk_L_law_2 14 rfl) 206 rfl ?_
        refine x_aload_n C rfl rfl (dkAt dk_L_law_2 15 rfl) 207 rfl ?_
        exact G.weak (L := [none, some (.ref (wad Γ 108)), some (.ref (wad Γ 109)), some (.ref (wad Γ 0)), none, some (.int t5)]) ⟨rfl, rfl, rfl, rfl, trivial⟩ (hk2 _ _ _ hf)
noncomputable def f_law_d (sh : Nat → Option SE) (Z : Nat) (t5 : Int32) (kx : Int32 → Mem → Nat → Option (Unit × Mem)) (M : Mem) (c : Nat) : Option (Unit × Mem) :=
  (if (1 : Int32) = 0 then none else (if c + 220 ≤ 290000 then cl (f_L_isLike sh Z M) (fun v1 M2 => (if v1 = 0 then none else kx (t5 + (-1 : Int32)) M2 (c + 220))) else none))
set_option maxRecDepth 100000 in
theorem s_law_d {Γ : WC} {X : MX} {sh : Nat → Option SE} (hN : HN Γ) (hC : NC Γ) (hF : HF Γ) (hL : HLa Γ sh) (C : CX Γ X cL_law 6 RL (some .boolean) room_1) {rM : Unit × Mem} (E : True) {Z : Nat} {t5 : Int32} {kx : Int32 → Mem → Nat → Option (Unit × Mem)} (hkx : ∀ (a5 : Int32) (Mx : Mem) (cx : Nat), kx a5 Mx cx = some rM → G Γ X Mx cx (6 * cx) [none, some (.ref (wad Γ 108)), some (.ref (wad Γ 109)), some (.ref (wad Γ 0)), none, some (.int a5)] [] 183) {M : Mem} {c : Nat} (hf : f_law_d sh Z t5 kx M c = some rM) : G Γ X M c (6 * c) [none, some (.ref (wad Γ 108)), some (.ref (wad Γ 109)), some (.ref (wad Γ 0)), none, some (.int t5)] [.int (1 : Int32)] 210 := by
  unfold f_law_d at hf
  refine x_if_eq C 221 (dkAt dk_L_law_2 17 rfl) 213 rfl (by decide) hf (fun hf => ?_) (fun hf => ?_)
  · refine x_iconst C (v := (0 : Int32)) (by decide) (dkAt dk_L_law_2 22 rfl) 222 rfl ?_
    exact nomatch hf
  · refine x_aload_n C rfl rfl (dkAt dk_L_law_2 18 rfl) 214 rfl ?_
    refine x_aload_n C rfl rfl (dkAt dk_L_law_2 19 rfl) 215 rfl ?_
    obtain ⟨hc, hf⟩ := if_some hf
    obtain ⟨v1, M2, h3, hf⟩ := cl_inv hf
    refine x_cSi C (c_L_isLike hN hC hF hL h3) mw_L_isLike ln_RL_288 ms_L_isLike (ro_L (k := 220) (by decide) (by decide) hc (by decide)) rfl rfl (Nat.le_of_ble_eq_true rfl) (dkAt dk_L_law_2 20 rfl) 218 rfl (c + 220) (6 * (c + 220)) rfl (Nat.mul_add _ _ _).symm ?_
    change G Γ X M2 (c + 220) (6 * (c + 220)) [none, some (.ref (wad Γ 108)), some (.ref (wad Γ 109)), some (.ref (wad Γ 0)), none, some (.int t5)] [.int v1] 218
    refine x_if_ne C 223 (dkAt dk_L_law_2 21 rfl) 221 rfl (by decide) hf (fun hf => ?_) (fun hf => ?_)
    · refine x_iinc C (v := (t5 + (-1 : Int32))) (L1 := [none, some (.ref (wad Γ 108)), some (.ref (wad Γ 109)), some (.ref (wad Γ 0)), none, some (.int (t5 + (-1 : Int32)))]) (dkAt dk_L_law_2 24 rfl) 226 rfl rfl rfl (by decide) rfl ?_
      refine x_goto C 183 (dkAt dk_L_law_2 25 rfl) (by decide) ?_
      exact G.weak (L := [none, some (.ref (wad Γ 108)), some (.ref (wad Γ 109)), some (.ref (wad Γ 0)), none, some (.int (t5 + (-1 : Int32)))]) ⟨rfl, rfl, rfl, rfl, trivial⟩ (hkx _ _ _ hf)
    · refine x_iconst C (v := (0 : Int32)) (by decide) (dkAt dk_L_law_2 22 rfl) 222 rfl ?_
      exact nomatch hf
noncomputable def f_law_e (sh : Nat → Option SE) (Z : Nat) (kr : Mem → Option (Unit × Mem)) (M : Mem) (c : Nat) : Option (Unit × Mem) :=
  bd (gI M (109) 1) (fun v1 => (if c + 3 ≤ 290000 then cl (f_L_thrown_0 Z M v1 (0 : Int32) (0 : Int32)) (fun v2 M3 => (if v2 = (2 : Int32) then rdI M3 111 6 (0 : Int32) (fun v5 => (if (c + 3) + 3 ≤ 290000 then cl (f_L_thrown_0 Z M3 (0 : Int32) v5 (0 : Int32)) (fun v6 M7 => (if v6 = (2 : Int32) then bd (gI M7 (109) 2) (fun v9 => (if ((c + 3) + 3) + 2 ≤ 290000 then cl (f_L_thrown_3 Z M7 v9 (0 : Int32) (0 : Int32)) (fun v10 M11 => (if v10 = (2 : Int32) then bd (gI M11 (109) 1) (fun v13 => (if (((c + 3) + 3) + 2) + 5 ≤ 290000 then cl (f_L_thrown_2 Z M11 (0 : Int32) (0 : Int32) v13) (fun v14 M15 => (if v14 = (2 : Int32) then (if ((((c + 3) + 3) + 2) + 5) + 2 ≤ 290000 then cl (f_L_thrown_21 Z M15 (6 : Int32) (0 : Int32) (0 : Int32)) (fun v17 M18 => (if v17 = (3 : Int32) then (if (((((c + 3) + 3) + 2) + 5) + 2) + 6 ≤ 290000 then cl (f_L_thrown_17 Z M18 (0 : Int32) (9 : Int32) (0 : Int32)) (fun v20 M21 => (if v20 = (3 : Int32) then (if ((((((c + 3) + 3) + 2) + 5) + 2) + 6) + 6 ≤ 290000 then cl (f_L_thrown_17 Z M21 (0 : Int32) (11 : Int32) (-1 : Int32)) (fun v23 M24 => (if v23 = (3 : Int32) then bd (gI M24 (109) 2) (fun v26 => (if (((((((c + 3) + 3) + 2) + 5) + 2) + 6) + 6) + 3 ≤ 290000 then cl (f_L_thrown_20 Z M24 v26 (0 : Int32) (0 : Int32)) (fun v27 M28 => (if v27 = (2 : Int32) then (if ((((((((c + 3) + 3) + 2) + 5) + 2) + 6) + 6) + 3) + 2 ≤ 290000 then cl (f_L_thrown_15 Z M28 (201 : Int32) (0 : Int32) (0 : Int32)) (fun v30 M31 => (if v30 = (3 : Int32) then (if (((((((((c + 3) + 3) + 2) + 5) + 2) + 6) + 6) + 3) + 2) + 700 ≤ 290000 then cl (f_L_flows sh Z M31) (fun v33 M34 => (if v33 = 0 then none else (if ((((((((((c + 3) + 3) + 2) + 5) + 2) + 6) + 6) + 3) + 2) + 700) + 700 ≤ 290000 then cl (f_L_runs sh Z M34) (fun v36 M37 => (if v36 = 0 then none else (if (((((((((((c + 3) + 3) + 2) + 5) + 2) + 6) + 6) + 3) + 2) + 700) + 700) + 220 ≤ 290000 then cl (f_L_isLike sh Z M37) (fun v39 M40 => (if v39 = 0 then none else (if ((((((((((((c + 3) + 3) + 2) + 5) + 2) + 6) + 6) + 3) + 2) + 700) + 700) + 220) ≤ 290000 then kr M40 else none))) else none))) else none))) else none) else none)) else none) else none)) else none)) else none)) else none) else none)) else none) else none)) else none) else none)) else none)) else none)) else none)) else none)) else none)) else none)) else none))
set_option maxRecDepth 100000 in
theorem s_law_e {Γ : WC} {X : MX} {sh : Nat → Option SE} (hN : HN Γ) (hC : NC Γ) (hF : HF Γ) (hL : HLa Γ sh) (C : CX Γ X cL_law 6 RL (some .boolean) room_1) {rM : Unit × Mem} (E : True) {Z : Nat} {kr : Mem → Option (Unit × Mem)} (hend : ∀ (pc : Nat) (Mx : Mem) (cx : Nat) (Lx : List (Option Value)), decode cL_law pc = .ok (.ireturn, 1) → cx ≤ 290000 → kr Mx = some rM → G Γ X Mx cx (6 * cx) Lx [.int (1 : Int32)] pc) {M : Mem} {c : Nat} (hf : f_law_e sh Z kr M c = some rM) : G Γ X M c (6 * c) [none, none, some (.ref (wad Γ 109)), some (.ref (wad Γ 0))] [] 229 := by
  unfold f_law_e at hf
  refine x_aload_n C rfl rfl (dkAt dk_L_law_2 26 rfl) 230 rfl ?_
  refine x_iconst C (v := (0 : Int32)) (by decide) (dkAt dk_L_law_2 27 rfl) 231 rfl ?_
  refine x_aload_n C rfl rfl (dkAt dk_L_law_2 28 rfl) 232 rfl ?_
  refine x_getIn C nlk_RL_133 (hL.2.1 109 (18, 17) rfl) (dkAt dk_L_law_2 29 rfl) 235 rfl hf (fun v1 hf => ?_)
  refine x_iconst C (v := (0 : Int32)) (by decide) (dkAt dk_L_law_2 30 rfl) 236 rfl ?_
  refine x_iconst C (v := (0 : Int32)) (by decide) (dkAt dk_L_law_2 31 rfl) 237 rfl ?_
  obtain ⟨hc, hf⟩ := if_some hf
  obtain ⟨v2, M3, h4, hf⟩ := cl_inv hf
  refine x_cW C (c_L_thrown_0 hN hC h4) mww_L_thrown ln_RL_191 (ro_L (k := 3) (by decide) (by decide) hc (by decide)) rfl rfl (Nat.le_of_ble_eq_true rfl) (dkAt dk_L_law_2 32 rfl) 240 rfl (c + 3) (6 * (c + 3)) rfl (by show 6 * c + 18 = _; omega) ?_
  refine x_iconst C (v := (2 : Int32)) (by decide) (dkAt dk_L_law_2 33 rfl) 241 rfl ?_
  refine x_icmp_ne C 333 (dkAt dk_L_law_2 34 rfl) 244 rfl (by decide) hf (fun hf => ?_) (fun hf => ?_)
  · refine x_iconst C (v := (0 : Int32)) (by decide) (dkAt dk_L_law_3 40 rfl) 334 rfl ?_
    exact nomatch hf
  · refine x_aload_n C rfl rfl (dkAt dk_L_law_2 35 rfl) 245 rfl ?_
    refine x_iconst C (v := (0 : Int32)) (by decide) (dkAt dk_L_law_2 36 rfl) 246 rfl ?_
    refine x_iconst C (v := (0 : Int32)) (by decide) (dkAt dk_L_law_2 37 rfl) 247 rfl ?_
    refine x_aload_n C rfl rfl (dkAt dk_L_law_2 38 rfl) 248 rfl ?_
    refine x_getSn C nlk_RL_161 (hL.2.1 109 (18, 17) rfl) (hL.2.2.2 109 7 111 rfl) (dkAt dk_L_law_2 39 rfl) 251 rfl ?_
    refine x_iconst C (v := (0 : Int32)) (by decide) (dkAt dk_L_law_2 40 rfl) 252 rfl ?_
    refine x_iald C (hL.2.1 111 (0, 6) rfl) (dkAt dk_L_law_2 41 rfl) 253 rfl hf (fun v5 hf => ?_)
    refine x_iconst C (v := (0 : Int32)) (by decide) (dkAt dk_L_law_2 42 rfl) 254 rfl ?_
    obtain ⟨hc, hf⟩ := if_some hf
    obtain ⟨v6, M7, h8, hf⟩ := cl_inv hf
    refine x_cW C (c_L_thrown_0 hN hC h8) mww_L_thrown ln_RL_191 (ro_L (k := 3) (by decide) (by decide) hc (by decide)) rfl rfl (Nat.le_of_ble_eq_true rfl) (dkAt dk_L_law_2 43 rfl) 257 rfl ((c + 3) + 3) (6 * ((c + 3) + 3)) rfl (by show 6 * (c + 3) + 18 = _; omega) ?_
    refine x_iconst C (v := (2 : Int32)) (by decide) (dkAt dk_L_law_2 44 rfl) 258 rfl ?_
    refine x_icmp_ne C 333 (dkAt dk_L_law_2 45 rfl) 261 rfl (by decide) hf (fun hf => ?_) (fun hf => ?_)
    · refine x_iconst C (v := (0 : Int32)) (by decide) (dkAt dk_L_law_3 40 rfl) 334 rfl ?_
      exact nomatch hf
    · refine x_aload_n C rfl rfl (dkAt dk_L_law_2 46 rfl) 262 rfl ?_
      refine x_iconst C (v := (3 : Int32)) (by decide) (dkAt dk_L_law_2 47 rfl) 263 rfl ?_
      refine x_aload_n C rfl rfl (dkAt dk_L_law_3 0 rfl) 264 rfl ?_
      refine x_getIn C nlk_RL_141 (hL.2.1 109 (18, 17) rfl) (dkAt dk_L_law_3 1 rfl) 267 rfl hf (fun v9 hf => ?_)
      refine x_iconst C (v := (0 : Int32)) (by decide) (dkAt dk_L_law_3 2 rfl) 268 rfl ?_
      refine x_iconst C (v := (0 : Int32)) (by decide) (dkAt dk_L_law_3 3 rfl) 269 rfl ?_
      obtain ⟨hc, hf⟩ := if_some hf
      obtain ⟨v10, M11, h12, hf⟩ := cl_inv hf
      refine x_cW C (c_L_thrown_3 hN hC h12) mww_L_thrown ln_RL_191 (ro_L (k := 2) (by decide) (by decide) hc (by decide)) rfl rfl (Nat.le_of_ble_eq_true rfl) (dkAt dk_L_law_3 4 rfl) 272 rfl (((c + 3) + 3) + 2) (6 * (((c + 3) + 3) + 2)) rfl (by show 6 * ((c + 3) + 3) + 12 = _; omega) ?_
      refine x_iconst C (v := (2 : Int32)) (by decide) (dkAt dk_L_law_3 5 rfl) 273 rfl ?_
      refine x_icmp_ne C 333 (dkAt dk_L_law_3 6 rfl) 276 rfl (by decide) hf (fun hf => ?_) (fun hf => ?_)
      · refine x_iconst C (v := (0 : Int32)) (by decide) (dkAt dk_L_law_3 40 rfl) 334 rfl ?_
        exact nomatch hf
      · refine x_aload_n C rfl rfl (dkAt dk_L_law_3 7 rfl) 277 rfl ?_
        refine x_iconst C (v := (2 : Int32)) (by decide) (dkAt dk_L_law_3 8 rfl) 278 rfl ?_
        refine x_iconst C (v := (0 : Int32)) (by decide) (dkAt dk_L_law_3 9 rfl) 279 rfl ?_
        refine x_iconst C (v := (0 : Int32)) (by decide) (dkAt dk_L_law_3 10 rfl) 280 rfl ?_
        refine x_aload_n C rfl rfl (dkAt dk_L_law_3 11 rfl) 281 rfl ?_
        refine x_getIn C nlk_RL_133 (hL.2.1 109 (18, 17) rfl) (dkAt dk_L_law_3 12 rfl) 284 rfl hf (fun v13 hf => ?_)
        obtain ⟨hc, hf⟩ := if_some hf
        obtain ⟨v14, M15, h16, hf⟩ := cl_inv hf
        refine x_cW C (c_L_thrown_2 hN hC h16) mww_L_thrown ln_RL_191 (ro_L (k := 5) (by decide) (by decide) hc (by decide)) rfl rfl (Nat.le_of_ble_eq_true rfl) (dkAt dk_L_law_3 13 rfl) 287 rfl ((((c + 3) + 3) + 2) + 5) (6 * ((((c + 3) + 3) + 2) + 5)) rfl (by show 6 * (((c + 3) + 3) + 2) + 30 = _; omega) ?_
        refine x_iconst C (v := (2 : Int32)) (by decide) (dkAt dk_L_law_3 14 rfl) 288 rfl ?_
        refine x_icmp_ne C 333 (dkAt dk_L_law_3 15 rfl) 291 rfl (by decide) hf (fun hf => ?_) (fun hf => ?_)
        · refine x_iconst C (v := (0 : Int32)) (by decide) (dkAt dk_L_law_3 40 rfl) 334 rfl ?_
          exact nomatch hf
        · refine x_aload_n C rfl rfl (dkAt dk_L_law_3 16 rfl) 292 rfl ?_
          refine x_bipush C (v := (21 : Int32)) (by decide) (dkAt dk_L_law_3 17 rfl) 294 rfl ?_
          refine x_bipush C (v := (6 : Int32)) (by decide) (dkAt dk_L_law_3 18 rfl) 296 rfl ?_
          refine x_iconst C (v := (0 : Int32)) (by decide) (dkAt dk_L_law_3 19 rfl) 297 rfl ?_
          refine x_iconst C (v := (0 : Int32)) (by decide) (dkAt dk_L_law_3 20 rfl) 298 rfl ?_
          obtain ⟨hc, hf⟩ := if_some hf
          obtain ⟨v17, M18, h19, hf⟩ := cl_inv hf
          refine x_cW C (c_L_thrown_21 hN hC h19) mww_L_thrown ln_RL_191 (ro_L (k := 2) (by decide) (by decide) hc (by decide)) rfl rfl (Nat.le_of_ble_eq_true rfl) (dkAt dk_L_law_3 21 rfl) 301 rfl (((((c + 3) + 3) + 2) + 5) + 2) (6 * (((((c + 3) + 3) + 2) + 5) + 2)) rfl (by show 6 * ((((c + 3) + 3) + 2) + 5) + 12 = _; omega) ?_
          refine x_iconst C (v := (3 : Int32)) (by decide) (dkAt dk_L_law_3 22 rfl) 302 rfl ?_
          refine x_icmp_ne C 333 (dkAt dk_L_law_3 23 rfl) 305 rfl (by decide) hf (fun hf => ?_) (fun hf => ?_)
          · refine x_iconst C (v := (0 : Int32)) (by decide) (dkAt dk_L_law_3 40 rfl) 334 rfl ?_
            exact nomatch hf
          · refine x_aload_n C rfl rfl (dkAt dk_L_law_3 24 rfl) 306 rfl ?_
            refine x_bipush C (v := (17 : Int32)) (by decide) (dkAt dk_L_law_3 25 rfl) 308 rfl ?_
            refine x_iconst C (v := (0 : Int32)) (by decide) (dkAt dk_L_law_3 26 rfl) 309 rfl ?_
            refine x_bipush C (v := (9 : Int32)) (by decide) (dkAt dk_L_law_3 27 rfl) 311 rfl ?_
            refine x_iconst C (v := (0 : Int32)) (by decide) (dkAt dk_L_law_3 28 rfl) 312 rfl ?_
            obtain ⟨hc, hf⟩ := if_some hf
            obtain ⟨v20, M21, h22, hf⟩ := cl_inv hf
            refine x_cW C (c_L_thrown_17 hN hC h22) mww_L_thrown ln_RL_191 (ro_L (k := 6) (by decide) (by decide) hc (by decide)) rfl rfl (Nat.le_of_ble_eq_true rfl) (dkAt dk_L_law_3 29 rfl) 315 rfl ((((((c + 3) + 3) + 2) + 5) + 2) + 6) (6 * ((((((c + 3) + 3) + 2) + 5) + 2) + 6)) rfl (by show 6 * (((((c + 3) + 3) + 2) + 5) + 2) + 36 = _; omega) ?_
            refine x_iconst C (v := (3 : Int32)) (by decide) (dkAt dk_L_law_3 30 rfl) 316 rfl ?_
            refine x_icmp_ne C 333 (dkAt dk_L_law_3 31 rfl) 319 rfl (by decide) hf (fun hf => ?_) (fun hf => ?_)
            · refine x_iconst C (v := (0 : Int32)) (by decide) (dkAt dk_L_law_3 40 rfl) 334 rfl ?_
              exact nomatch hf
            · refine x_aload_n C rfl rfl (dkAt dk_L_law_3 32 rfl) 320 rfl ?_
              refine x_bipush C (v := (17 : Int32)) (by decide) (dkAt dk_L_law_3 33 rfl) 322 rfl ?_
              refine x_iconst C (v := (0 : Int32)) (by decide) (dkAt dk_L_law_3 34 rfl) 323 rfl ?_
              refine x_bipush C (v := (11 : Int32)) (by decide) (dkAt dk_L_law_3 35 rfl) 325 rfl ?_
              refine x_iconst C (v := (-1 : Int32)) (by decide) (dkAt dk_L_law_3 36 rfl) 326 rfl ?_
              obtain ⟨hc, hf⟩ := if_some hf
              obtain ⟨v23, M24, h25, hf⟩ := cl_inv hf
              refine x_cW C (c_L_thrown_17 hN hC h25) mww_L_thrown ln_RL_191 (ro_L (k := 6) (by decide) (by decide) hc (by decide)) rfl rfl (Nat.le_of_ble_eq_true rfl) (dkAt dk_L_law_3 37 rfl) 329 rfl (((((((c + 3) + 3) + 2) + 5) + 2) + 6) + 6) (6 * (((((((c + 3) + 3) + 2) + 5) + 2) + 6) + 6)) rfl (by show 6 * ((((((c + 3) + 3) + 2) + 5) + 2) + 6) + 36 = _; omega) ?_
              refine x_iconst C (v := (3 : Int32)) (by decide) (dkAt dk_L_law_3 38 rfl) 330 rfl ?_
              refine x_icmp_eq C 335 (dkAt dk_L_law_3 39 rfl) 333 rfl (by decide) hf (fun hf => ?_) (fun hf => ?_)
              · refine x_aload_n C rfl rfl (dkAt dk_L_law_3 42 rfl) 336 rfl ?_
                refine x_bipush C (v := (20 : Int32)) (by decide) (dkAt dk_L_law_3 43 rfl) 338 rfl ?_
                refine x_aload_n C rfl rfl (dkAt dk_L_law_3 44 rfl) 339 rfl ?_
                refine x_getIn C nlk_RL_141 (hL.2.1 109 (18, 17) rfl) (dkAt dk_L_law_3 45 rfl) 342 rfl hf (fun v26 hf => ?_)
                refine x_iconst C (v := (0 : Int32)) (by decide) (dkAt dk_L_law_3 46 rfl) 343 rfl ?_
                refine x_iconst C (v := (0 : Int32)) (by decide) (dkAt dk_L_law_3 47 rfl) 344 rfl ?_
                obtain ⟨hc, hf⟩ := if_some hf
                obtain ⟨v27, M28, h29, hf⟩ := cl_inv hf
                refine x_cW C (c_L_thrown_20 hN hC h29) mww_L_thrown ln_RL_191 (ro_L (k := 3) (by decide) (by decide) hc (by decide)) rfl rfl (Nat.le_of_ble_eq_true rfl) (dkAt dk_L_law_4 0 rfl) 347 rfl ((((((((c + 3) + 3) + 2) + 5) + 2) + 6) + 6) + 3) (6 * ((((((((c + 3) + 3) + 2) + 5) + 2) + 6) + 6) + 3)) rfl (by show 6 * (((((((c + 3) + 3) + 2) + 5) + 2) + 6) + 6) + 18 = _; omega) ?_
                refine x_iconst C (v := (2 : Int32)) (by decide) (dkAt dk_L_law_4 1 rfl) 348 rfl ?_
                refine x_icmp_ne C 394 (dkAt dk_L_law_4 2 rfl) 351 rfl (by decide) hf (fun hf => ?_) (fun hf => ?_)
                · refine x_iconst C (v := (0 : Int32)) (by decide) (dkAt dk_L_law_4 25 rfl) 395 rfl ?_
                  exact nomatch hf
                · refine x_aload_n C rfl rfl (dkAt dk_L_law_4 3 rfl) 352 rfl ?_
                  refine x_bipush C (v := (15 : Int32)) (by decide) (dkAt dk_L_law_4 4 rfl) 354 rfl ?_
                  refine x_sipush C (v := (201 : Int32)) (by decide) (dkAt dk_L_law_4 5 rfl) 357 rfl ?_
                  refine x_iconst C (v := (0 : Int32)) (by decide) (dkAt dk_L_law_4 6 rfl) 358 rfl ?_
                  refine x_iconst C (v := (0 : Int32)) (by decide) (dkAt dk_L_law_4 7 rfl) 359 rfl ?_
                  obtain ⟨hc, hf⟩ := if_some hf
                  obtain ⟨v30, M31, h32, hf⟩ := cl_inv hf
                  refine x_cW C (c_L_thrown_15 hN hC h32) mww_L_thrown ln_RL_191 (ro_L (k := 2) (by decide) (by decide) hc (by decide)) rfl rfl (Nat.le_of_ble_eq_true rfl) (dkAt dk_L_law_4 8 rfl) 362 rfl (((((((((c + 3) + 3) + 2) + 5) + 2) + 6) + 6) + 3) + 2) (6 * (((((((((c + 3) + 3) + 2) + 5) + 2) + 6) + 6) + 3) + 2)) rfl (by show 6 * ((((((((c + 3) + 3) + 2) + 5) + 2) + 6) + 6) + 3) + 12 = _; omega) ?_
                  refine x_iconst C (v := (3 : Int32)) (by decide) (dkAt dk_L_law_4 9 rfl) 363 rfl ?_
                  refine x_icmp_ne C 394 (dkAt dk_L_law_4 10 rfl) 366 rfl (by decide) hf (fun hf => ?_) (fun hf => ?_)
                  · refine x_iconst C (v := (0 : Int32)) (by decide) (dkAt dk_L_law_4 25 rfl) 395 rfl ?_
                    exact nomatch hf
                  · refine x_aload_n C rfl rfl (dkAt dk_L_law_4 11 rfl) 367 rfl ?_
                    refine x_aload_n C rfl rfl (dkAt dk_L_law_4 12 rfl) 368 rfl ?_
                    obtain ⟨hc, hf⟩ := if_some hf
                    obtain ⟨v33, M34, h35, hf⟩ := cl_inv hf
                    refine x_cSi C (c_L_flows hN hC hF hL h35) mw_L_flows ln_RL_292 ms_L_flows (ro_L (k := 700) (by decide) (by decide) hc (by decide)) rfl rfl (Nat.le_of_ble_eq_true rfl) (dkAt dk_L_law_4 13 rfl) 371 rfl ((((((((((c + 3) + 3) + 2) + 5) + 2) + 6) + 6) + 3) + 2) + 700) (6 * ((((((((((c + 3) + 3) + 2) + 5) + 2) + 6) + 6) + 3) + 2) + 700)) rfl (Nat.mul_add _ _ _).symm ?_
                    change G Γ X M34 ((((((((((c + 3) + 3) + 2) + 5) + 2) + 6) + 6) + 3) + 2) + 700) (6 * ((((((((((c + 3) + 3) + 2) + 5) + 2) + 6) + 6) + 3) + 2) + 700)) [none, none, some (.ref (wad Γ 109)), some (.ref (wad Γ 0))] [.int v33] 371
                    refine x_if_eq C 394 (dkAt dk_L_law_4 14 rfl) 374 rfl (by decide) hf (fun hf => ?_) (fun hf => ?_)
                    · refine x_iconst C (v := (0 : Int32)) (by decide) (dkAt dk_L_law_4 25 rfl) 395 rfl ?_
                      exact nomatch hf
                    · refine x_aload_n C rfl rfl (dkAt dk_L_law_4 15 rfl) 375 rfl ?_
                      refine x_aload_n C rfl rfl (dkAt dk_L_law_4 16 rfl) 376 rfl ?_
                      obtain ⟨hc, hf⟩ := if_some hf
                      obtain ⟨v36, M37, h38, hf⟩ := cl_inv hf
                      refine x_cSi C (c_L_runs hN hC hF hL h38) mw_L_runs ln_RL_295 ms_L_runs (ro_L (k := 700) (by decide) (by decide) hc (by decide)) rfl rfl (Nat.le_of_ble_eq_true rfl) (dkAt dk_L_law_4 17 rfl) 379 rfl (((((((((((c + 3) + 3) + 2) + 5) + 2) + 6) + 6) + 3) + 2) + 700) + 700) (6 * (((((((((((c + 3) + 3) + 2) + 5) + 2) + 6) + 6) + 3) + 2) + 700) + 700)) rfl (Nat.mul_add _ _ _).symm ?_
                      change G Γ X M37 (((((((((((c + 3) + 3) + 2) + 5) + 2) + 6) + 6) + 3) + 2) + 700) + 700) (6 * (((((((((((c + 3) + 3) + 2) + 5) + 2) + 6) + 6) + 3) + 2) + 700) + 700)) [none, none, some (.ref (wad Γ 109)), some (.ref (wad Γ 0))] [.int v36] 379
                      refine x_if_eq C 394 (dkAt dk_L_law_4 18 rfl) 382 rfl (by decide) hf (fun hf => ?_) (fun hf => ?_)
                      · refine x_iconst C (v := (0 : Int32)) (by decide) (dkAt dk_L_law_4 25 rfl) 395 rfl ?_
                        exact nomatch hf
                      · refine x_aload_n C rfl rfl (dkAt dk_L_law_4 19 rfl) 383 rfl ?_
                        refine x_aload_n C rfl rfl (dkAt dk_L_law_4 20 rfl) 384 rfl ?_
                        obtain ⟨hc, hf⟩ := if_some hf
                        obtain ⟨v39, M40, h41, hf⟩ := cl_inv hf
                        refine x_cSi C (c_L_isLike hN hC hF hL h41) mw_L_isLike ln_RL_288 ms_L_isLike (ro_L (k := 220) (by decide) (by decide) hc (by decide)) rfl rfl (Nat.le_of_ble_eq_true rfl) (dkAt dk_L_law_4 21 rfl) 387 rfl ((((((((((((c + 3) + 3) + 2) + 5) + 2) + 6) + 6) + 3) + 2) + 700) + 700) + 220) (6 * ((((((((((((c + 3) + 3) + 2) + 5) + 2) + 6) + 6) + 3) + 2) + 700) + 700) + 220)) rfl (Nat.mul_add _ _ _).symm ?_
                        change G Γ X M40 ((((((((((((c + 3) + 3) + 2) + 5) + 2) + 6) + 6) + 3) + 2) + 700) + 700) + 220) (6 * ((((((((((((c + 3) + 3) + 2) + 5) + 2) + 6) + 6) + 3) + 2) + 700) + 700) + 220)) [none, none, some (.ref (wad Γ 109)), some (.ref (wad Γ 0))] [.int v39] 387
                        refine x_if_eq C 394 (dkAt dk_L_law_4 22 rfl) 390 rfl (by decide) hf (fun hf => ?_) (fun hf => ?_)
                        · refine x_iconst C (v := (0 : Int32)) (by decide) (dkAt dk_L_law_4 25 rfl) 395 rfl ?_
                          exact nomatch hf
                        · refine x_iconst C (v := (1 : Int32)) (by decide) (dkAt dk_L_law_4 23 rfl) 391 rfl ?_
                          refine x_goto C 395 (dkAt dk_L_law_4 24 rfl) (by decide) ?_
                          obtain ⟨hc9, hf⟩ := if_some hf
                          exact hend _ _ _ _ (dkAt dk_L_law_4 26 rfl) hc9 hf
              · refine x_iconst C (v := (0 : Int32)) (by decide) (dkAt dk_L_law_3 40 rfl) 334 rfl ?_
                exact nomatch hf
