theorem nlk_RL_141 : NLk RL 141 12 2 0 := ⟨_, _, _, "DecisionChainLaw", rc12, by decide, by decide +kernel, uw12, gd 734 (by decide +kernel) rfl⟩
theorem nlk_RL_146 : NLk RL 146 12 3 0 := ⟨_, _, _, "DecisionChainLaw", rc12, by decide, by decide +kernel, uw12, gd 736 (by decide +kernel) rfl⟩
theorem nlk_RL_151 : NLk RL 151 12 4 0 := ⟨_, _, _, "DecisionChainLaw", rc12, by decide, by decide +kernel, uw12, gd 738 (by decide +kernel) rfl⟩
theorem nlk_RL_153 : NLk RL 153 12 5 0 := ⟨_, _, _, "DecisionChainLaw", rc12, by decide, by decide +kernel, uw12, gd 740 (by decide +kernel) rfl⟩
theorem nlk_RL_155 : NLk RL 155 12 6 2 := ⟨_, _, _, "DecisionChainLaw", rc12, by decide, by decide +kernel, uw12, gd 742 (by decide +kernel) rfl⟩
theorem nlk_RL_161 : NLk RL 161 12 7 2 := ⟨_, _, _, "DecisionChainLaw", rc12, by decide, by decide +kernel, uw12, gd 744 (by decide +kernel) rfl⟩
theorem nlk_RL_164 : NLk RL 164 12 8 2 := ⟨_, _, _, "DecisionChainLaw", rc12, by decide, by decide +kernel, uw12, gd 746 (by decide +kernel) rfl⟩
theorem nlk_RL_170 : NLk RL 170 12 9 2 := ⟨_, _, _, "DecisionChainLaw", rc12, by decide, by decide +kernel, uw12, gd 748 (by decide +kernel) rfl⟩
theorem nlk_RL_176 : NLk RL 176 12 13 2 := ⟨_, _, _, "DecisionChainLaw", rc12, by decide, by decide +kernel, uw12, gd 753 (by decide +kernel) rfl⟩
theorem nlk_RL_179 : NLk RL 179 12 14 0 := ⟨_, _, _, "DecisionChainLaw", rc12, by decide, by decide +kernel, uw12, gd 755 (by decide +kernel) rfl⟩
theorem nlk_RL_182 : NLk RL 182 12 15 2 := ⟨_, _, _, "DecisionChainLaw", rc12, by decide, by decide +kernel, uw12, gd 757 (by decide +kernel) rfl⟩
theorem nlk_RL_188 : NLk RL 188 12 16 2 := ⟨_, _, _, "DecisionChainLaw", rc12, by decide, by decide +kernel, uw12, gd 759 (by decide +kernel) rfl⟩
theorem ln_RL_130 : Gd (.methodLink RL 130 yX11_states) := gd 473 (by decide +kernel) rfl
theorem ln_RL_138 : Gd (.methodLink RL 138 yX11_budgets) := gd 1479 (by decide +kernel) rfl
theorem ln_RL_143 : Gd (.methodLink RL 143 yX11_horizon) := gd 477 (by decide +kernel) rfl
theorem ln_RL_148 : Gd (.methodLink RL 148 yX11_seed) := gd 1483 (by decide +kernel) rfl
theorem ln_RL_158 : Gd (.methodLink RL 158 yX11_actions) := gd 1487 (by decide +kernel) rfl
theorem ln_RL_167 : Gd (.methodLink RL 167 yX11_weight) := gd 1491 (by decide +kernel) rfl
theorem ln_RL_172 : Gd (.methodLink RL 172 yX11_isPermitted) := gd 1495 (by decide +kernel) rfl
theorem ln_RL_185 : Gd (.methodLink RL 185 yX11_walkedBy) := gd 1499 (by decide +kernel) rfl
theorem ln_RL_191 : Gd (.methodLink RL 191 yL_thrown) := gd 1095 (by decide +kernel) rfl
theorem ln_RL_200 : Gd (.methodLink RL 200 yX11_broken) := gd 1509 (by decide +kernel) rfl
theorem ln_RL_218 : Gd (.methodLink RL 218 yX12_flow) := gd 1542 (by decide +kernel) rfl
theorem ln_RL_228 : Gd (.methodLink RL 228 yX11_unit) := gd 1554 (by decide +kernel) rfl
theorem ln_RL_232 : Gd (.methodLink RL 232 yX12_unit) := gd 1558 (by decide +kernel) rfl
theorem ln_RL_233 : Gd (.methodLink RL 233 yX11_gainOfRun) := gd 1564 (by decide +kernel) rfl
theorem ln_RL_236 : Gd (.methodLink RL 236 yX12_mean) := gd 1568 (by decide +kernel) rfl
theorem ln_RL_239 : Gd (.methodLink RL 239 yX11_meanGain) := gd 1573 (by decide +kernel) rfl
theorem ln_RL_243 : Gd (.methodLink RL 243 yX11_usedOfRun) := gd 1577 (by decide +kernel) rfl
theorem ln_RL_247 : Gd (.methodLink RL 247 yX11_left) := gd 1581 (by decide +kernel) rfl
theorem ln_RL_250 : Gd (.methodLink RL 250 yX11_visits) := gd 1585 (by decide +kernel) rfl
theorem ln_RL_253 : Gd (.methodLink RL 253 yX11_firstTime) := gd 1590 (by decide +kernel) rfl
theorem ln_RL_256 : Gd (.methodLink RL 256 yX11_hit) := gd 1594 (by decide +kernel) rfl
theorem mw_X11_actions : MW yX11_actions cX11_actions 2 (some .int) 1 := ⟨gd 61 (by decide +kernel) rfl, gd 1490 (by decide +kernel) rfl, ⟨by decide, by decide⟩, by decide +kernel⟩
theorem mw_X11_broken : MW yX11_broken cX11_broken 1 (some .int) 0 := ⟨gd 61 (by decide +kernel) rfl, gd 1512 (by decide +kernel) rfl, ⟨by decide, by decide⟩, by decide +kernel⟩
theorem mw_X11_budgets : MW yX11_budgets cX11_budgets 1 (some .int) 0 := ⟨gd 61 (by decide +kernel) rfl, gd 1482 (by decide +kernel) rfl, ⟨by decide, by decide⟩, by decide +kernel⟩
theorem mw_X11_firstTime : MW yX11_firstTime cX11_firstTime 3 (some .int) 1 := ⟨gd 61 (by decide +kernel) rfl, gd 1593 (by decide +kernel) rfl, ⟨by decide, by decide⟩, by decide +kernel⟩
theorem mw_X11_gainOfRun : MW yX11_gainOfRun cX11_gainOfRun 1 (some .long) 0 := ⟨gd 61 (by decide +kernel) rfl, gd 1567 (by decide +kernel) rfl, ⟨by decide, by decide⟩, by decide +kernel⟩
theorem mw_X11_hit : MW yX11_hit cX11_hit 2 (some .long) 1 := ⟨gd 61 (by decide +kernel) rfl, gd 1597 (by decide +kernel) rfl, ⟨by decide, by decide⟩, by decide +kernel⟩
theorem mw_X11_horizon : MW yX11_horizon cX11_horizon 1 (some .int) 0 := ⟨gd 61 (by decide +kernel) rfl, gd 480 (by decide +kernel) rfl, ⟨by decide, by decide⟩, by decide +kernel⟩
theorem mw_X11_isPermitted : MW yX11_isPermitted cX11_isPermitted 3 (some .boolean) 2 := ⟨gd 61 (by decide +kernel) rfl, gd 1498 (by decide +kernel) rfl, ⟨by decide, by decide⟩, by decide +kernel⟩
theorem mw_X11_left : MW yX11_left cX11_left 2 (some .long) 1 := ⟨gd 61 (by decide +kernel) rfl, gd 1584 (by decide +kernel) rfl, ⟨by decide, by decide⟩, by decide +kernel⟩
theorem mw_X11_meanGain : MW yX11_meanGain cX11_meanGain 1 (some .float) 0 := ⟨gd 61 (by decide +kernel) rfl, gd 1576 (by decide +kernel) rfl, ⟨by decide, by decide⟩, by decide +kernel⟩
theorem mw_X11_seed : MW yX11_seed cX11_seed 1 (some .int) 0 := ⟨gd 61 (by decide +kernel) rfl, gd 1486 (by decide +kernel) rfl, ⟨by decide, by decide⟩, by decide +kernel⟩
theorem mw_X11_states : MW yX11_states cX11_states 1 (some .int) 0 := ⟨gd 61 (by decide +kernel) rfl, gd 476 (by decide +kernel) rfl, ⟨by decide, by decide⟩, by decide +kernel⟩
theorem mw_X11_unit : MW yX11_unit cX11_unit 1 (some .long) 0 := ⟨gd 61 (by decide +kernel) rfl, gd 1557 (by decide +kernel) rfl, ⟨by decide, by decide⟩, by decide +kernel⟩
theorem mw_X11_usedOfRun : MW yX11_usedOfRun cX11_usedOfRun 2 (some .long) 1 := ⟨gd 61 (by decide +kernel) rfl, gd 1580 (by decide +kernel) rfl, ⟨by decide, by decide⟩, by decide +kernel⟩
theorem mw_X11_visits : MW yX11_visits cX11_visits 2 (some .long) 1 := ⟨gd 61 (by decide +kernel) rfl, gd 1588 (by decide +kernel) rfl, ⟨by decide, by decide⟩, by decide +kernel⟩
theorem mw_X11_walkedBy : MW yX11_walkedBy cX11_walkedBy 2 (some .int) 1 := ⟨gd 61 (by decide +kernel) rfl, gd 1502 (by decide +kernel) rfl, ⟨by decide, by decide⟩, by decide +kernel⟩
theorem mw_X11_weight : MW yX11_weight cX11_weight 3 (some .int) 2 := ⟨gd 61 (by decide +kernel) rfl, gd 1494 (by decide +kernel) rfl, ⟨by decide, by decide⟩, by decide +kernel⟩
theorem mw_X12_flow : MW yX12_flow cX12_flow 8 (some .long) 2 := ⟨gd 48 (by decide +kernel) rfl, gd 1545 (by decide +kernel) rfl, ⟨by decide, by decide⟩, by decide +kernel⟩
theorem mw_X12_unit : MW yX12_unit cX12_unit 4 (some .long) 0 := ⟨gd 48 (by decide +kernel) rfl, gd 1561 (by decide +kernel) rfl, ⟨by decide, by decide⟩, by decide +kernel⟩
theorem mi_X11_actions : (Gd (.instanceMethod yX11_actions) ∧ Gd (.selects yX11_actions.cls yX11_actions yX11_actions)) := ⟨gd 1488 (by decide +kernel) rfl, gd 1489 (by decide +kernel) rfl⟩
theorem mi_X11_broken : (Gd (.instanceMethod yX11_broken) ∧ Gd (.selects yX11_broken.cls yX11_broken yX11_broken)) := ⟨gd 1510 (by decide +kernel) rfl, gd 1511 (by decide +kernel) rfl⟩
theorem mi_X11_budgets : (Gd (.instanceMethod yX11_budgets) ∧ Gd (.selects yX11_budgets.cls yX11_budgets yX11_budgets)) := ⟨gd 1480 (by decide +kernel) rfl, gd 1481 (by decide +kernel) rfl⟩
theorem mi_X11_firstTime : (Gd (.instanceMethod yX11_firstTime) ∧ Gd (.selects yX11_firstTime.cls yX11_firstTime yX11_firstTime)) := ⟨gd 1591 (by decide +kernel) rfl, gd 1592 (by decide +kernel) rfl⟩
theorem mi_X11_gainOfRun : (Gd (.instanceMethod yX11_gainOfRun) ∧ Gd (.selects yX11_gainOfRun.cls yX11_gainOfRun yX11_gainOfRun)) := ⟨gd 1565 (by decide +kernel) rfl, gd 1566 (by decide +kernel) rfl⟩
theorem mi_X11_hit : (Gd (.instanceMethod yX11_hit) ∧ Gd (.selects yX11_hit.cls yX11_hit yX11_hit)) := ⟨gd 1595 (by decide +kernel) rfl, gd 1596 (by decide +kernel) rfl⟩
theorem mi_X11_horizon : (Gd (.instanceMethod yX11_horizon) ∧ Gd (.selects yX11_horizon.cls yX11_horizon yX11_horizon)) := ⟨gd 478 (by decide +kernel) rfl, gd 479 (by decide +kernel) rfl⟩
theorem mi_X11_isPermitted : (Gd (.instanceMethod yX11_isPermitted) ∧ Gd (.selects yX11_isPermitted.cls yX11_isPermitted yX11_isPermitted)) := ⟨gd 1496 (by decide +kernel) rfl, gd 1497 (by decide +kernel) rfl⟩
theorem mi_X11_left : (Gd (.instanceMethod yX11_left) ∧ Gd (.selects yX11_left.cls yX11_left yX11_left)) := ⟨gd 1582 (by decide +kernel) rfl, gd 1583 (by decide +kernel) rfl⟩
theorem mi_X11_meanGain : (Gd (.instanceMethod yX11_meanGain) ∧ Gd (.selects yX11_meanGain.cls yX11_meanGain yX11_meanGain)) := ⟨gd 1574 (by decide +kernel) rfl, gd 1575 (by decide +kernel) rfl⟩
theorem mi_X11_seed : (Gd (.instanceMethod yX11_seed) ∧ Gd (.selects yX11_seed.cls yX11_seed yX11_seed)) := ⟨gd 1484 (by decide +kernel) rfl, gd 1485 (by decide +kernel) rfl⟩
theorem mi_X11_states : (Gd (.instanceMethod yX11_states) ∧ Gd (.selects yX11_states.cls yX11_states yX11_states)) := ⟨gd 474 (by decide +kernel) rfl, gd 475 (by decide +kernel) rfl⟩
theorem mi_X11_unit : (Gd (.instanceMethod yX11_unit) ∧ Gd (.selects yX11_unit.cls yX11_unit yX11_unit)) := ⟨gd 1555 (by decide +kernel) rfl, gd 1556 (by decide +kernel) rfl⟩
theorem mi_X11_usedOfRun : (Gd (.instanceMethod yX11_usedOfRun) ∧ Gd (.selects yX11_usedOfRun.cls yX11_usedOfRun yX11_usedOfRun)) := ⟨gd 1578 (by decide +kernel) rfl, gd 1579 (by decide +kernel) rfl⟩
theorem mi_X11_visits : (Gd (.instanceMethod yX11_visits) ∧ Gd (.selects yX11_visits.cls yX11_visits yX11_visits)) := ⟨gd 1586 (by decide +kernel) rfl, gd 1587 (by decide +kernel) rfl⟩
theorem mi_X11_walkedBy : (Gd (.instanceMethod yX11_walkedBy) ∧ Gd (.selects yX11_walkedBy.cls yX11_walkedBy yX11_walkedBy)) := ⟨gd 1500 (by decide +kernel) rfl, gd 1501 (by decide +kernel) rfl⟩
theorem mi_X11_weight : (Gd (.instanceMethod yX11_weight) ∧ Gd (.selects yX11_weight.cls yX11_weight yX11_weight)) := ⟨gd 1492 (by decide +kernel) rfl, gd 1493 (by decide +kernel) rfl⟩
theorem mi_X12_flow : (Gd (.instanceMethod yX12_flow) ∧ Gd (.selects yX12_flow.cls yX12_flow yX12_flow)) := ⟨gd 1543 (by decide +kernel) rfl, gd 1544 (by decide +kernel) rfl⟩
theorem mi_X12_unit : (Gd (.instanceMethod yX12_unit) ∧ Gd (.selects yX12_unit.cls yX12_unit yX12_unit)) := ⟨gd 1559 (by decide +kernel) rfl, gd 1560 (by decide +kernel) rfl⟩
noncomputable def f_L_isLike_L59 (sh : Nat → Option SE) (Z : Nat) (k : Mem → Nat → Option (Int32 × Mem)) : Nat → Int32 → Mem → Nat → Option (Int32 × Mem)
  | 0, _, _, _ => none
  | n + 1, x16, M17, c18 => bd (gI M17 (109) 2) (fun v19 => (if v19 ≤ x16 then k M17 c18 else (if c18 + 2 ≤ 220 then clT (f_X11_limit Z M17 x16) (fun v20 M21 => rdI M21 110 3 x16 (fun v22 => (if v20 = v22 then f_L_isLike_L59 sh Z k n (x16 + (1 : Int32)) M21 (c18 + 2) else none))) (fun _ _ => none) else none)))
noncomputable def f_L_isLike_L117 (sh : Nat → Option SE) (Z : Nat) (x25 : Int32) (k : Mem → Nat → Option (Int32 × Mem)) : Nat → Int32 → Mem → Nat → Option (Int32 × Mem)
  | 0, _, _, _ => none
  | n + 1, x32, M33, c34 => rdI M33 111 6 x25 (fun v35 => (if v35 ≤ x32 then k M33 c34 else (if c34 + 3 ≤ 220 then clT (f_X11_gain Z M33 x25 x32) (fun v36 M37 => rdQ M37 112 6 x25 sh (0, 3) (fun o38 => rdI M37 o38 3 x32 (fun v39 => (if v36 = v39 then (if (c34 + 3) + 3 ≤ 220 then clT (f_X11_weight Z M37 x25 x32) (fun v40 M41 => rdQ M41 119 6 x25 sh (0, 3) (fun o42 => rdI M41 o42 3 x32 (fun v43 => (if v40 = v43 then (if ((c34 + 3) + 3) + 3 ≤ 220 then clT (f_X11_isPermitted Z M41 x25 x32) (fun v44 M45 => rdQ M45 201 6 x25 sh (3, 3) (fun o46 => rdI M45 o46 3 x32 (fun v47 => (if v44 = v47 then f_L_isLike_L117 sh Z x25 k n (x32 + (1 : Int32)) M45 (((c34 + 3) + 3) + 3) else none)))) (fun _ _ => none) else none) else none)))) (fun _ _ => none) else none) else none)))) (fun _ _ => none) else none)))
noncomputable def f_L_isLike_L91 (sh : Nat → Option SE) (Z : Nat) (k : Mem → Nat → Option (Int32 × Mem)) : Nat → Int32 → Mem → Nat → Option (Int32 × Mem)
  | 0, _, _, _ => none
  | n + 1, x25, M26, c27 => bd (gI M26 (109) 1) (fun v28 => (if v28 ≤ x25 then k M26 c27 else (if c27 + 2 ≤ 220 then clT (f_X11_actions Z M26 x25) (fun v29 M30 => rdI M30 111 6 x25 (fun v31 => (if v29 = v31 then f_L_isLike_L117 sh Z x25 (fun (M48 : Mem) (c49 : Nat) => f_L_isLike_L91 sh Z k n (x25 + (1 : Int32)) M48 c49) Z (0 : Int32) M30 (c27 + 2) else none))) (fun _ _ => none) else none)))
noncomputable def f_L_isLike_L194 (sh : Nat → Option SE) (Z : Nat) (k : Mem → Nat → Option (Int32 × Mem)) : Nat → Int32 → Mem → Nat → Option (Int32 × Mem)
  | 0, _, _, _ => none
  | n + 1, x52, M53, c54 => bd (gI M53 (109) 14) (fun v55 => (if v55 < x52 then k M53 c54 else (if c54 + 3 ≤ 220 then clT (f_X11_walked Z M53 x52) (fun v56 M57 => rdI M57 208 6 x52 (fun v58 => (if v56 = v58 then bd (gI M57 (109) 14) (fun v59 => jn (fun (t60 : Mem × Nat) => f_L_isLike_L194 sh Z k n (x52 + (1 : Int32)) t60.1 t60.2) (fun j61 => (if v59 ≤ x52 then j61 (M57, (c54 + 3)) else (if (c54 + 3) + 3 ≤ 220 then clT (f_X11_walkedBy Z M57 x52) (fun v62 M63 => rdI M63 209 5 x52 (fun v64 => (if v62 = v64 then j61 (M63, ((c54 + 3) + 3)) else none))) (fun _ _ => none) else none)))) else none))) (fun _ _ => none) else none)))
noncomputable def f_L_isLike (sh : Nat → Option SE) (Z : Nat) (M : Mem)  : Option (Int32 × Mem) :=
  (if 0 + 0 ≤ 220 then cl (f_X11_states Z M) (fun v1 M2 => bd (gI M2 (109) 1) (fun v3 => (if v1 = v3 then (if 0 + 0 ≤ 220 then cl (f_X11_budgets Z M2) (fun v4 M5 => bd (gI M5 (109) 2) (fun v6 => (if v4 = v6 then (if 0 + 0 ≤ 220 then cl (f_X11_horizon Z M5) (fun v7 M8 => bd (gI M8 (109) 3) (fun v9 => (if v7 = v9 then (if 0 + 1 ≤ 220 then clT (f_X11_seed Z M8) (fun v10 M11 => bd (gI M11 (109) 4) (fun v12 => (if v10 = v12 then (if (0 + 1) + 1 ≤ 220 then clT (f_X11_start Z M11) (fun v13 M14 => bd (gI M14 (109) 5) (fun v15 => (if v13 = v15 then f_L_isLike_L59 sh Z (fun (M23 : Mem) (c24 : Nat) => f_L_isLike_L91 sh Z (fun (M50 : Mem) (c51 : Nat) => f_L_isLike_L194 sh Z (fun (M65 : Mem) (c66 : Nat) => bd (gI M65 (109) 14) (fun v67 => (if 0 ≤ v67 then (if c66 ≤ 220 then some ((1 : Int32), M65) else none) else (if c66 + 3 ≤ 220 then cl (f_L_thrown_14 Z M65 (0 : Int32) (0 : Int32) (0 : Int32)) (fun v68 M69 => (if v68 = (1 : Int32) then (if (c66 + 3) ≤ 220 then some ((1 : Int32), M69) else none) else none)) else none)))) Z (0 : Int32) M50 c51) Z (0 : Int32) M23 c24) Z (0 : Int32) M14 ((0 + 1) + 1) else none))) (fun _ _ => none) else none) else none))) (fun _ _ => none) else none) else none))) else none) else none))) else none) else none))) else none)
set_option maxRecDepth 100000 in
theorem l_L_isLike_L59 {Γ : WC} {X : MX} {sh : Nat → Option SE} (hN : HN Γ) (hC : NC Γ) (hF : HF Γ) (hL : HLa Γ sh) (C : CX Γ X cL_isLike 4 RL (some .boolean) (rmL 60 220 (6 * 220))) {rM : Int32 × Mem} (E : EndN Γ X (some (.int rM.1)) rM.2 220 (6 * 220)) {Z : Nat} {k : Mem → Nat → Option (Int32 × Mem)} (hk : ∀  (Mx : Mem) (cx : Nat), k Mx cx = some rM → G Γ X Mx cx (6 * cx) [some (.ref (wad Γ 0)), some (.ref (wad Γ 109))] [] 89) : ∀ (n : Nat) (x16 : Int32) (M17 : Mem) (c18 : Nat), f_L_isLike_L59 sh Z k n x16 M17 c18 = some rM → G Γ X M17 c18 (6 * c18) [some (.ref (wad Γ 0)), some (.ref (wad Γ 109)), some (.int x16)] [] 59 := by
  intro n
  induction n with
  | zero =>
    intro x16 M17 c18 hf
    have hf0 : (none : Option _) = some rM := hf
    cases hf0
  | succ n ih =>
    intro x16 M17 c18 hf
    rw [f_L_isLike_L59] at hf
    refine x_iload_n C rfl rfl (dkAt dk_L_isLike 29 rfl) 60 rfl ?_
    refine x_aload_n C rfl rfl (dkAt dk_L_isLike 30 rfl) 61 rfl ?_
    refine x_getIn C nlk_RL_141 (hL.2.1 109 (18, 17) rfl) (dkAt dk_L_isLike 31 rfl) 64 rfl hf (fun v19 hf => ?_)
    refine x_icmp_ge C 89 (dkAt dk_L_isLike 32 rfl) 67 rfl (by decide) hf (fun hf => ?_) (fun hf => ?_)
    · exact G.weak (L := [some (.ref (wad Γ 0)), some (.ref (wad Γ 109))]) ⟨rfl, rfl, trivial⟩ (hk _ _ hf)
    · refine x_aload_n C rfl rfl (dkAt dk_L_isLike 33 rfl) 68 rfl ?_
      refine x_iload_n C rfl rfl (dkAt dk_L_isLike 34 rfl) 69 rfl ?_
      obtain ⟨hc, hf⟩ := if_some hf
      refine h_cVi C hf (fun r hr => c_X11_limit hN hr) mw_X11_limit ln_RL_44 mi_X11_limit (hN.rc (ci := 11) sh0 rc11) (ro_c (k := 2) (by decide) (by decide) hc (by decide)) rfl rfl (Nat.le_of_ble_eq_true rfl) (dkAt dk_L_isLike 35 rfl) 72 rfl (c18 + 2) (6 * (c18 + 2)) rfl (by show 6 * c18 + 12 = _; omega) (fun v20 M21 hf => ?_) (fun _ _ h => nomatch h)
      refine x_aload_n C rfl rfl (dkAt dk_L_isLike 36 rfl) 73 rfl ?_
      refine x_getSn C nlk_RL_155 (hL.2.1 109 (18, 17) rfl) (hL.2.2.2 109 6 110 rfl) (dkAt dk_L_isLike 37 rfl) 76 rfl ?_
      refine x_iload_n C rfl rfl (dkAt dk_L_isLike 38 rfl) 77 rfl ?_
      refine x_iald C (hL.2.1 110 (0, 3) rfl) (dkAt dk_L_isLike 39 rfl) 78 rfl hf (fun v22 hf => ?_)
      refine x_icmp_eq C 83 (dkAt dk_L_isLike 40 rfl) 81 rfl (by decide) hf (fun hf => ?_) (fun hf => ?_)
      · refine x_iinc C (v := (x16 + (1 : Int32))) (L1 := [some (.ref (wad Γ 0)), some (.ref (wad Γ 109)), some (.int (x16 + (1 : Int32)))]) (dkAt dk_L_isLike 43 rfl) 86 rfl rfl rfl (by decide) rfl ?_
        refine x_goto C 59 (dkAt dk_L_isLike 44 rfl) (by decide) ?_
        exact G.weak (L := [some (.ref (wad Γ 0)), some (.ref (wad Γ 109)), some (.int (x16 + (1 : Int32)))]) ⟨rfl, rfl, rfl, trivial⟩ (ih _ _ _ hf)
      · refine x_iconst C (v := (0 : Int32)) (by decide) (dkAt dk_L_isLike 41 rfl) 82 rfl ?_
        exact nomatch hf
set_option maxRecDepth 100000 in
theorem l_L_isLike_L117 {Γ : WC} {X : MX} {sh : Nat → Option SE} (hN : HN Γ) (hC : NC Γ) (hF : HF Γ) (hL : HLa Γ sh) (C : CX Γ X cL_isLike 4 RL (some .boolean) (rmL 60 220 (6 * 220))) {rM : Int32 × Mem} (E : EndN Γ X (some (.int rM.1)) rM.2 220 (6 * 220)) {Z : Nat} {x25 : Int32} {k : Mem → Nat → Option (Int32 × Mem)} (hk : ∀  (Mx : Mem) (cx : Nat), k Mx cx = some rM → G Γ X Mx cx (6 * cx) [some (.ref (wad Γ 0)), some (.ref (wad Γ 109)), some (.int x25)] [] 186) : ∀ (n : Nat) (x32 : Int32) (M33 : Mem) (c34 : Nat), f_L_isLike_L117 sh Z x25 k n x32 M33 c34 = some rM → G Γ X M33 c34 (6 * c34) [some (.ref (wad Γ 0)), some (.ref (wad Γ 109)), some (.int x25), some (.int x32)] [] 117 := by
  intro n
  induction n with
  | zero =>
    intro x32 M33 c34 hf
    have hf0 : (none : Option _) = some rM := hf
    cases hf0
  | succ n ih =>
    intro x32 M33 c34 hf
    rw [f_L_isLike_L117] at hf
    refine x_iload_n C rfl rfl (dkAt dk_L_isLike 63 rfl) 118 rfl ?_
    refine x_aload_n C rfl rfl (dkAt dk_L_isLike 64 rfl) 119 rfl ?_
    refine x_getSn C nlk_RL_161 (hL.2.1 109 (18, 17) rfl) (hL.2.2.2 109 7 111 rfl) (dkAt dk_L_isLike 65 rfl) 122 rfl ?_
    refine x_iload_n C rfl rfl (dkAt dk_L_isLike 66 rfl) 123 rfl ?_
    refine x_iald C (hL.2.1 111 (0, 6) rfl) (dkAt dk_L_isLike 67 rfl) 124 rfl hf (fun v35 hf => ?_)
    refine x_icmp_ge C 186 (dkAt dk_L_isLike 68 rfl) 127 rfl (by decide) hf (fun hf => ?_) (fun hf => ?_)
    · exact G.weak (L := [some (.ref (wad Γ 0)), some (.ref (wad Γ 109)), some (.int x25)]) ⟨rfl, rfl, rfl, trivial⟩ (hk _ _ hf)
    · refine x_aload_n C rfl rfl (dkAt dk_L_isLike 69 rfl) 128 rfl ?_
      refine x_iload_n C rfl rfl (dkAt dk_L_isLike 70 rfl) 129 rfl ?_
      refine x_iload_n C rfl rfl (dkAt dk_L_isLike 71 rfl) 130 rfl ?_
      obtain ⟨hc, hf⟩ := if_some hf
      refine h_cVi C hf (fun r hr => c_X11_gain hN hr) mw_X11_gain ln_RL_33 mi_X11_gain (hN.rc (ci := 11) sh0 rc11) (ro_c (k := 3) (by decide) (by decide) hc (by decide)) rfl rfl (Nat.le_of_ble_eq_true rfl) (dkAt dk_L_isLike 72 rfl) 133 rfl (c34 + 3) (6 * (c34 + 3)) rfl (by show 6 * c34 + 18 = _; omega) (fun v36 M37 hf => ?_) (fun _ _ h => nomatch h)
      refine x_aload_n C rfl rfl (dkAt dk_L_isLike 73 rfl) 134 rfl ?_
      refine x_getSn C nlk_RL_164 (hL.2.1 109 (18, 17) rfl) (hL.2.2.2 109 8 112 rfl) (dkAt dk_L_isLike 74 rfl) 137 rfl ?_
      refine x_iload_n C rfl rfl (dkAt dk_L_isLike 75 rfl) 138 rfl ?_
      refine x_qald C (k9 := 1) (n := 6) (by decide) (by decide) (hL.2.1 112 (5, 1006) rfl) (dkAt dk_L_isLike 76 rfl) 139 rfl hf (fun o38 h_o38 hf => ?_)
      refine x_iload_n C rfl rfl (dkAt dk_L_isLike 77 rfl) 140 rfl ?_
      refine x_iald C (hL.2.2.1 _ _ h_o38) (dkAt dk_L_isLike 78 rfl) 141 rfl hf (fun v39 hf => ?_)
      refine x_icmp_ne C 178 (dkAt dk_L_isLike 79 rfl) 144 rfl (by decide) hf (fun hf => ?_) (fun hf => ?_)
      · refine x_iconst C (v := (0 : Int32)) (by decide) (dkAt dk_L_isLike 102 rfl) 179 rfl ?_
        exact nomatch hf
      · refine x_aload_n C rfl rfl (dkAt dk_L_isLike 80 rfl) 145 rfl ?_
        refine x_iload_n C rfl rfl (dkAt dk_L_isLike 81 rfl) 146 rfl ?_
        refine x_iload_n C rfl rfl (dkAt dk_L_isLike 82 rfl) 147 rfl ?_
        obtain ⟨hc, hf⟩ := if_some hf
        refine h_cVi C hf (fun r hr => c_X11_weight hN hr) mw_X11_weight ln_RL_167 mi_X11_weight (hN.rc (ci := 11) sh0 rc11) (ro_c (k := 3) (by decide) (by decide) hc (by decide)) rfl rfl (Nat.le_of_ble_eq_true rfl) (dkAt dk_L_isLike 83 rfl) 150 rfl ((c34 + 3) + 3) (6 * ((c34 + 3) + 3)) rfl (by show 6 * (c34 + 3) + 18 = _; omega) (fun v40 M41 hf => ?_) (fun _ _ h => nomatch h)
        refine x_aload_n C rfl rfl (dkAt dk_L_isLike 84 rfl) 151 rfl ?_
        refine x_getSn C nlk_RL_170 (hL.2.1 109 (18, 17) rfl) (hL.2.2.2 109 9 119 rfl) (dkAt dk_L_isLike 85 rfl) 154 rfl ?_
        refine x_iload_n C rfl rfl (dkAt dk_L_isLike 86 rfl) 155 rfl ?_
        refine x_qald C (k9 := 1) (n := 6) (by decide) (by decide) (hL.2.1 119 (5, 1006) rfl) (dkAt dk_L_isLike 87 rfl) 156 rfl hf (fun o42 h_o42 hf => ?_)
        refine x_iload_n C rfl rfl (dkAt dk_L_isLike 88 rfl) 157 rfl ?_
        refine x_iald C (hL.2.2.1 _ _ h_o42) (dkAt dk_L_isLike 89 rfl) 158 rfl hf (fun v43 hf => ?_)
        refine x_icmp_ne C 178 (dkAt dk_L_isLike 90 rfl) 161 rfl (by decide) hf (fun hf => ?_) (fun hf => ?_)
        · refine x_iconst C (v := (0 : Int32)) (by decide) (dkAt dk_L_isLike 102 rfl) 179 rfl ?_
          exact nomatch hf
        · refine x_aload_n C rfl rfl (dkAt dk_L_isLike 91 rfl) 162 rfl ?_
          refine x_iload_n C rfl rfl (dkAt dk_L_isLike 92 rfl) 163 rfl ?_
          refine x_iload_n C rfl rfl (dkAt dk_L_isLike 93 rfl) 164 rfl ?_
          obtain ⟨hc, hf⟩ := if_some hf
          refine h_cVi C hf (fun r hr => c_X11_isPermitted hN hr) mw_X11_isPermitted ln_RL_172 mi_X11_isPermitted (hN.rc (ci := 11) sh0 rc11) (ro_c (k := 3) (by decide) (by decide) hc (by decide)) rfl rfl (Nat.le_of_ble_eq_true rfl) (dkAt dk_L_isLike 94 rfl) 167 rfl (((c34 + 3) + 3) + 3) (6 * (((c34 + 3) + 3) + 3)) rfl (by show 6 * ((c34 + 3) + 3) + 18 = _; omega) (fun v44 M45 hf => ?_) (fun _ _ h => nomatch h)
          refine x_aload_n C rfl rfl (dkAt dk_L_isLike 95 rfl) 168 rfl ?_
          refine x_getSn C nlk_RL_176 (hL.2.1 109 (18, 17) rfl) (hL.2.2.2 109 13 201 rfl) (dkAt dk_L_isLike 96 rfl) 171 rfl ?_
          refine x_iload_n C rfl rfl (dkAt dk_L_isLike 97 rfl) 172 rfl ?_
          refine x_qald C (k9 := 3) (n := 6) (by decide) (by decide) (hL.2.1 201 (5, 3006) rfl) (dkAt dk_L_isLike 98 rfl) 173 rfl hf (fun o46 h_o46 hf => ?_)
          refine x_iload_n C rfl rfl (dkAt dk_L_isLike 99 rfl) 174 rfl ?_
          refine x_zald C (hL.2.2.1 _ _ h_o46) (dkAt dk_L_isLike 100 rfl) 175 rfl hf (fun v47 hf => ?_)
          refine x_icmp_eq C 180 (dkAt dk_L_isLike 101 rfl) 178 rfl (by decide) hf (fun hf => ?_) (fun hf => ?_)
          · refine x_iinc C (v := (x32 + (1 : Int32))) (L1 := [some (.ref (wad Γ 0)), some (.ref (wad Γ 109)), some (.int x25), some (.int (x32 + (1 : Int32)))]) (dkAt dk_L_isLike 104 rfl) 183 rfl rfl rfl (by decide) rfl ?_
            refine x_goto C 117 (dkAt dk_L_isLike 105 rfl) (by decide) ?_
            exact G.weak (L := [some (.ref (wad Γ 0)), some (.ref (wad Γ 109)), some (.int x25), some (.int (x32 + (1 : Int32)))]) ⟨rfl, rfl, rfl, rfl, trivial⟩ (ih _ _ _ hf)
          · refine x_iconst C (v := (0 : Int32)) (by decide) (dkAt dk_L_isLike 102 rfl) 179 rfl ?_
            exact nomatch hf
set_option maxRecDepth 100000 in
theorem l_L_isLike_L91 {Γ : WC} {X : MX} {sh : Nat → Option SE} (hN : HN Γ) (hC : NC Γ) (hF : HF Γ) (hL : HLa Γ sh) (C : CX Γ X cL_isLike 4 RL (some .boolean) (rmL 60 220 (6 * 220))) {rM : Int32 × Mem} (E : EndN Γ X (some (.int rM.1)) rM.2 220 (6 * 220)) {Z : Nat} {k : Mem → Nat → Option (Int32 × Mem)} (hk : ∀  (Mx : Mem) (cx : Nat), k Mx cx = some rM → G Γ X Mx cx (6 * cx) [some (.ref (wad Γ 0)), some (.ref (wad Γ 109))] [] 192) : ∀ (n : Nat) (x25 : Int32) (M26 : Mem) (c27 : Nat), f_L_isLike_L91 sh Z k n x25 M26 c27 = some rM → G Γ X M26 c27 (6 * c27) [some (.ref (wad Γ 0)), some (.ref (wad Γ 109)), some (.int x25)] [] 91 := by
  intro n
  induction n with
  | zero =>
    intro x25 M26 c27 hf
    have hf0 : (none : Option _) = some rM := hf
    cases hf0
  | succ n ih =>
    intro x25 M26 c27 hf
    rw [f_L_isLike_L91] at hf
    refine x_iload_n C rfl rfl (dkAt dk_L_isLike 47 rfl) 92 rfl ?_
    refine x_aload_n C rfl rfl (dkAt dk_L_isLike 48 rfl) 93 rfl ?_
    refine x_getIn C nlk_RL_133 (hL.2.1 109 (18, 17) rfl) (dkAt dk_L_isLike 49 rfl) 96 rfl hf (fun v28 hf => ?_)
    refine x_icmp_ge C 192 (dkAt dk_L_isLike 50 rfl) 99 rfl (by decide) hf (fun hf => ?_) (fun hf => ?_)
    · exact G.weak (L := [some (.ref (wad Γ 0)), some (.ref (wad Γ 109))]) ⟨rfl, rfl, trivial⟩ (hk _ _ hf)
    · refine x_aload_n C rfl rfl (dkAt dk_L_isLike 51 rfl) 100 rfl ?_
      refine x_iload_n C rfl rfl (dkAt dk_L_isLike 52 rfl) 101 rfl ?_
      obtain ⟨hc, hf⟩ := if_some hf
      refine h_cVi C hf (fun r hr => c_X11_actions hN hr) mw_X11_actions ln_RL_158 mi_X11_actions (hN.rc (ci := 11) sh0 rc11) (ro_c (k := 2) (by decide) (by decide) hc (by decide)) rfl rfl (Nat.le_of_ble_eq_true rfl) (dkAt dk_L_isLike 53 rfl) 104 rfl (c27 + 2) (6 * (c27 + 2)) rfl (by show 6 * c27 + 12 = _; omega) (fun v29 M30 hf => ?_) (fun _ _ h => nomatch h)
      refine x_aload_n C rfl rfl (dkAt dk_L_isLike 54 rfl) 105 rfl ?_
      refine x_getSn C nlk_RL_161 (hL.2.1 109 (18, 17) rfl) (hL.2.2.2 109 7 111 rfl) (dkAt dk_L_isLike 55 rfl) 108 rfl ?_
      refine x_iload_n C rfl rfl (dkAt dk_L_isLike 56 rfl) 109 rfl ?_
      refine x_iald C (hL.2.1 111 (0, 6) rfl) (dkAt dk_L_isLike 57 rfl) 110 rfl hf (fun v31 hf => ?_)
      refine x_icmp_eq C 115 (dkAt dk_L_isLike 58 rfl) 113 rfl (by decide) hf (fun hf => ?_) (fun hf => ?_)
      · refine x_iconst C (v := (0 : Int32)) (by decide) (dkAt dk_L_isLike 61 rfl) 116 rfl ?_
        refine x_istore_n C (L1 := [some (.ref (wad Γ 0)), some (.ref (wad Γ 109)), some (.int x25), some (.int (0 : Int32))]) (dkAt dk_L_isLike 62 rfl) 117 rfl rfl (by decide) rfl ?_
        refine G.weak (L := [some (.ref (wad Γ 0)), some (.ref (wad Γ 109)), some (.int x25), some (.int (0 : Int32))]) ⟨rfl, rfl, rfl, rfl, trivial⟩ ?_
        refine l_L_isLike_L117 hN hC hF hL C E ?_ Z _ _ _ hf
        intro M48 c49 hf
        refine x_iinc C (v := (x25 + (1 : Int32))) (L1 := [some (.ref (wad Γ 0)), some (.ref (wad Γ 109)), some (.int (x25 + (1 : Int32)))]) (dkAt dk_L_isLike 106 rfl) 189 rfl rfl rfl (by decide) rfl ?_
        refine x_goto C 91 (dkAt dk_L_isLike 107 rfl) (by decide) ?_
        exact G.weak (L := [some (.ref (wad Γ 0)), some (.ref (wad Γ 109)), some (.int (x25 + (1 : Int32)))]) ⟨rfl, rfl, rfl, trivial⟩ (ih _ _ _ hf)
      · refine x_iconst C (v := (0 : Int32)) (by decide) (dkAt dk_L_isLike 59 rfl) 114 rfl ?_
        exact nomatch hf
set_option maxRecDepth 100000 in
theorem l_L_isLike_L194 {Γ : WC} {X : MX} {sh : Nat → Option SE} (hN : HN Γ) (hC : NC Γ) (hF : HF Γ) (hL : HLa Γ sh) (C : CX Γ X cL_isLike 4 RL (some .boolean) (rmL 60 220 (6 * 220))) {rM : Int32 × Mem} (E : EndN Γ X (some (.int rM.1)) rM.2 220 (6 * 220)) {Z : Nat} {k : Mem → Nat → Option (Int32 × Mem)} (hk : ∀  (Mx : Mem) (cx : Nat), k Mx cx = some rM → G Γ X Mx cx (6 * cx) [some (.ref (wad Γ 0)), some (.ref (wad Γ 109))] [] 246) : ∀ (n : Nat) (x52 : Int32) (M53 : Mem) (c54 : Nat), f_L_isLike_L194 sh Z k n x52 M53 c54 = some rM → G Γ X M53 c54 (6 * c54) [some (.ref (wad Γ 0)), some (.ref (wad Γ 109)), some (.int x52)] [] 194 := by
  intro n
  induction n with
  | zero =>
    intro x52 M53 c54 hf
    have hf0 : (none : Option _) = some rM := hf
    cases hf0
  | succ n ih =>
    intro x52 M53 c54 hf
    rw [f_L_isLike_L194] at hf
    refine x_iload_n C rfl rfl (dkAt dk_L_isLike 110 rfl) 195 rfl ?_
    refine x_aload_n C rfl rfl (dkAt dk_L_isLike 111 rfl) 196 rfl ?_
    refine x_getIn C nlk_RL_179 (hL.2.1 109 (18, 17) rfl) (dkAt dk_L_isLike 112 rfl) 199 rfl hf (fun v55 hf => ?_)
    refine x_icmp_gt C 246 (dkAt dk_L_isLike 113 rfl) 202 rfl (by decide) hf (fun hf => ?_) (fun hf => ?_)
    · exact G.weak (L := [some (.ref (wad Γ 0)), some (.ref (wad Γ 109))]) ⟨rfl, rfl, trivial⟩ (hk _ _ hf)
    · refine x_aload_n C rfl rfl (dkAt dk_L_isLike 114 rfl) 203 rfl ?_
      refine x_iload_n C rfl rfl (dkAt dk_L_isLike 115 rfl) 204 rfl ?_
      obtain ⟨hc, hf⟩ := if_some hf
      refine h_cVi C hf (fun r hr => c_X11_walked hN hr) mw_X11_walked ln_RL_80 mi_X11_walked (hN.rc (ci := 11) sh0 rc11) (ro_c (k := 3) (by decide) (by decide) hc (by decide)) rfl rfl (Nat.le_of_ble_eq_true rfl) (dkAt dk_L_isLike 116 rfl) 207 rfl (c54 + 3) (6 * (c54 + 3)) rfl (by show 6 * c54 + 18 = _; omega) (fun v56 M57 hf => ?_) (fun _ _ h => nomatch h)
      refine x_aload_n C rfl rfl (dkAt dk_L_isLike 117 rfl) 208 rfl ?_
      refine x_getSn C nlk_RL_182 (hL.2.1 109 (18, 17) rfl) (hL.2.2.2 109 15 208 rfl) (dkAt dk_L_isLike 118 rfl) 211 rfl ?_
      refine x_iload_n C rfl rfl (dkAt dk_L_isLike 119 rfl) 212 rfl ?_
      refine x_iald C (hL.2.1 208 (0, 6) rfl) (dkAt dk_L_isLike 120 rfl) 213 rfl hf (fun v58 hf => ?_)
      refine x_icmp_ne C 238 (dkAt dk_L_isLike 121 rfl) 216 rfl (by decide) hf (fun hf => ?_) (fun hf => ?_)
      · refine x_iconst C (v := (0 : Int32)) (by decide) (dkAt dk_L_isLike 134 rfl) 239 rfl ?_
        exact nomatch hf
      · refine x_iload_n C rfl rfl (dkAt dk_L_isLike 122 rfl) 217 rfl ?_
        refine x_aload_n C rfl rfl (dkAt dk_L_isLike 123 rfl) 218 rfl ?_
        refine x_getIn C nlk_RL_179 (hL.2.1 109 (18, 17) rfl) (dkAt dk_L_isLike 124 rfl) 221 rfl hf (fun v59 hf => ?_)
        refine x_join hf (fun t60 => G Γ X t60.1 t60.2 (6 * t60.2) [some (.ref (wad Γ 0)), some (.ref (wad Γ 109)), some (.int x52)] [] 240) (fun t60 hf => ?_) (fun j61 hj61 hf => ?_)
        · refine x_iinc C (v := (x52 + (1 : Int32))) (L1 := [some (.ref (wad Γ 0)), some (.ref (wad Γ 109)), some (.int (x52 + (1 : Int32)))]) (dkAt dk_L_isLike 136 rfl) 243 rfl rfl rfl (by decide) rfl ?_
          refine x_goto C 194 (dkAt dk_L_isLike 137 rfl) (by decide) ?_
          exact G.weak (L := [some (.ref (wad Γ 0)), some (.ref (wad Γ 109)), some (.int (x52 + (1 : Int32)))]) ⟨rfl, rfl, rfl, trivial⟩ (ih _ _ _ hf)
        · refine x_icmp_ge C 240 (dkAt dk_L_isLike 125 rfl) 224 rfl (by decide) hf (fun hf => ?_) (fun hf => ?_)
          · exact G.weak (L := [some (.ref (wad Γ 0)), some (.ref (wad Γ 109)), some (.int x52)]) ⟨rfl, rfl, rfl, trivial⟩ (hj61 _ hf)
          · refine x_aload_n C rfl rfl (dkAt dk_L_isLike 126 rfl) 225 rfl ?_
            refine x_iload_n C rfl rfl (dkAt dk_L_isLike 127 rfl) 226 rfl ?_
            obtain ⟨hc, hf⟩ := if_some hf
            refine h_cVi C hf (fun r hr => c_X11_walkedBy hN hr) mw_X11_walkedBy ln_RL_185 mi_X11_walkedBy (hN.rc (ci := 11) sh0 rc11) (ro_c (k := 3) (by decide) (by decide) hc (by decide)) rfl rfl (Nat.le_of_ble_eq_true rfl) (dkAt dk_L_isLike 128 rfl) 229 rfl ((c54 + 3) + 3) (6 * ((c54 + 3) + 3)) rfl (by show 6 * (c54 + 3) + 18 = _; omega) (fun v62 M63 hf => ?_) (fun _ _ h => nomatch h)
            refine x_aload_n C rfl rfl (dkAt dk_L_isLike 129 rfl) 230 rfl ?_
            refine x_getSn C nlk_RL_188 (hL.2.1 109 (18, 17) rfl) (hL.2.2.2 109 16 209 rfl) (dkAt dk_L_isLike 130 rfl) 233 rfl ?_
            refine x_iload_n C rfl rfl (dkAt dk_L_isLike 131 rfl) 234 rfl ?_
            refine x_iald C (hL.2.1 209 (0, 5) rfl) (dkAt dk_L_isLike 132 rfl) 235 rfl hf (fun v64 hf => ?_)
            refine x_icmp_eq C 240 (dkAt dk_L_isLike 133 rfl) 238 rfl (by decide) hf (fun hf => ?_) (fun hf => ?_)
            · exact G.weak (L := [some (.ref (wad Γ 0)), some (.ref (wad Γ 109)), some (.int x52)]) ⟨rfl, rfl, rfl, trivial⟩ (hj61 _ hf)
            · refine x_iconst C (v := (0 : Int32)) (by decide) (dkAt dk_L_isLike 134 rfl) 239 rfl ?_
              exact nomatch hf
set_option maxRecDepth 100000 in
theorem c_L_isLike {Γ : WC} {sh : Nat → Option SE} (hN : HN Γ) (hC : NC Γ) (hF : HF Γ) (hL : HLa Γ sh) {Z : Nat} {M : Mem}  {rM : Int32 × Mem} (hf : f_L_isLike sh Z M  = some rM) : Ct Γ yL_isLike cL_isLike 4 (some .boolean) (rmL 60 220 (6 * 220)) [.ref (wad Γ 0), .ref (wad Γ 109)] M (some (.int rM.1)) rM.2 := by
  refine mkN hL.1.1 (own := RL) rfl (by decide) (Nat.le_of_ble_eq_true rfl) (fun X C E => ?_)
  change G Γ X M (0) (6 * (0)) [some (.ref (wad Γ 0)), some (.ref (wad Γ 109))] [] 0
  unfold f_L_isLike at hf
  refine x_aload_n C rfl rfl (dkAt dk_L_isLike 0 rfl) 1 rfl ?_
  obtain ⟨hc, hf⟩ := if_some hf
  obtain ⟨v1, M2, h73, hf⟩ := cl_inv hf
  refine x_cVi C (c_X11_states hN h73) mw_X11_states ln_RL_130 mi_X11_states (hN.rc (ci := 11) sh0 rc11) (ro_c (k := 0) (by decide) (by decide) hc (by decide)) rfl rfl (Nat.le_of_ble_eq_true rfl) (dkAt dk_L_isLike 1 rfl) 4 rfl 0 (6 * 0) rfl (by show 6 * (0) + 0 = _; omega) ?_
  refine x_aload_n C rfl rfl (dkAt dk_L_isLike 2 rfl) 5 rfl ?_
  refine x_getIn C nlk_RL_133 (hL.2.1 109 (18, 17) rfl) (dkAt dk_L_isLike 3 rfl) 8 rfl hf (fun v3 hf => ?_)
  refine x_icmp_ne C 55 (dkAt dk_L_isLike 4 rfl) 11 rfl (by decide) hf (fun hf => ?_) (fun hf => ?_)
  · refine x_iconst C (v := (0 : Int32)) (by decide) (dkAt dk_L_isLike 25 rfl) 56 rfl ?_
    exact nomatch hf
  · refine x_aload_n C rfl rfl (dkAt dk_L_isLike 5 rfl) 12 rfl ?_
    obtain ⟨hc, hf⟩ := if_some hf
    obtain ⟨v4, M5, h72, hf⟩ := cl_inv hf
    refine x_cVi C (c_X11_budgets hN h72) mw_X11_budgets ln_RL_138 mi_X11_budgets (hN.rc (ci := 11) sh0 rc11) (ro_c (k := 0) (by decide) (by decide) hc (by decide)) rfl rfl (Nat.le_of_ble_eq_true rfl) (dkAt dk_L_isLike 6 rfl) 15 rfl 0 (6 * 0) rfl (by show 6 * (0) + 0 = _; omega) ?_
    refine x_aload_n C rfl rfl (dkAt dk_L_isLike 7 rfl) 16 rfl ?_
    refine x_getIn C nlk_RL_141 (hL.2.1 109 (18, 17) rfl) (dkAt dk_L_isLike 8 rfl) 19 rfl hf (fun v6 hf => ?_)
    refine x_icmp_ne C 55 (dkAt dk_L_isLike 9 rfl) 22 rfl (by decide) hf (fun hf => ?_) (fun hf => ?_)
    · refine x_iconst C (v := (0 : Int32)) (by decide) (dkAt dk_L_isLike 25 rfl) 56 rfl ?_
      exact nomatch hf
    · refine x_aload_n C rfl rfl (dkAt dk_L_isLike 10 rfl) 23 rfl ?_
      obtain ⟨hc, hf⟩ := if_some hf
      obtain ⟨v7, M8, h71, hf⟩ := cl_inv hf
      refine x_cVi C (c_X11_horizon hN h71) mw_X11_horizon ln_RL_143 mi_X11_horizon (hN.rc (ci := 11) sh0 rc11) (ro_c (k := 0) (by decide) (by decide) hc (by decide)) rfl rfl (Nat.le_of_ble_eq_true rfl) (dkAt dk_L_isLike 11 rfl) 26 rfl 0 (6 * 0) rfl (by show 6 * (0) + 0 = _; omega) ?_
      refine x_aload_n C rfl rfl (dkAt dk_L_isLike 12 rfl) 27 rfl ?_
      refine x_getIn C nlk_RL_146 (hL.2.1 109 (18, 17) rfl) (dkAt dk_L_isLike 13 rfl) 30 rfl hf (fun v9 hf => ?_)
      refine x_icmp_ne C 55 (dkAt dk_L_isLike 14 rfl) 33 rfl (by decide) hf (fun hf => ?_) (fun hf => ?_)
      · refine x_iconst C (v := (0 : Int32)) (by decide) (dkAt dk_L_isLike 25 rfl) 56 rfl ?_
        exact nomatch hf
      · refine x_aload_n C rfl rfl (dkAt dk_L_isLike 15 rfl) 34 rfl ?_
        obtain ⟨hc, hf⟩ := if_some hf
        refine h_cVi C hf (fun r hr => c_X11_seed hN hr) mw_X11_seed ln_RL_148 mi_X11_seed (hN.rc (ci := 11) sh0 rc11) (ro_c (k := 1) (by decide) (by decide) hc (by decide)) rfl rfl (Nat.le_of_ble_eq_true rfl) (dkAt dk_L_isLike 16 rfl) 37 rfl (0 + 1) (6 * (0 + 1)) rfl (by show 6 * (0) + 6 = _; omega) (fun v10 M11 hf => ?_) (fun _ _ h => nomatch h)
        refine x_aload_n C rfl rfl (dkAt dk_L_isLike 17 rfl) 38 rfl ?_
        refine x_getIn C nlk_RL_151 (hL.2.1 109 (18, 17) rfl) (dkAt dk_L_isLike 18 rfl) 41 rfl hf (fun v12 hf => ?_)
        refine x_icmp_ne C 55 (dkAt dk_L_isLike 19 rfl) 44 rfl (by decide) hf (fun hf => ?_) (fun hf => ?_)
        · refine x_iconst C (v := (0 : Int32)) (by decide) (dkAt dk_L_isLike 25 rfl) 56 rfl ?_
          exact nomatch hf
        · refine x_aload_n C rfl rfl (dkAt dk_L_isLike 20 rfl) 45 rfl ?_
          obtain ⟨hc, hf⟩ := if_some hf
          refine h_cVi C hf (fun r hr => c_X11_start hN hr) mw_X11_start ln_RL_115 mi_X11_start (hN.rc (ci := 11) sh0 rc11) (ro_c (k := 1) (by decide) (by decide) hc (by decide)) rfl rfl (Nat.le_of_ble_eq_true rfl) (dkAt dk_L_isLike 21 rfl) 48 rfl ((0 + 1) + 1) (6 * ((0 + 1) + 1)) rfl (by show 6 * (0 + 1) + 6 = _; omega) (fun v13 M14 hf => ?_) (fun _ _ h => nomatch h)
          refine x_aload_n C rfl rfl (dkAt dk_L_isLike 22 rfl) 49 rfl ?_
          refine x_getIn C nlk_RL_153 (hL.2.1 109 (18, 17) rfl) (dkAt dk_L_isLike 23 rfl) 52 rfl hf (fun v15 hf => ?_)
          refine x_icmp_eq C 57 (dkAt dk_L_isLike 24 rfl) 55 rfl (by decide) hf (fun hf => ?_) (fun hf => ?_)
          · refine x_iconst C (v := (0 : Int32)) (by decide) (dkAt dk_L_isLike 27 rfl) 58 rfl ?_
            refine x_istore_n C (L1 := [some (.ref (wad Γ 0)), some (.ref (wad Γ 109)), some (.int (0 : Int32))]) (dkAt dk_L_isLike 28 rfl) 59 rfl rfl (by decide) rfl ?_
            refine G.weak (L := [some (.ref (wad Γ 0)), some (.ref (wad Γ 109)), some (.int (0 : Int32))]) ⟨rfl, rfl, rfl, trivial⟩ ?_
            refine l_L_isLike_L59 hN hC hF hL C E ?_ Z _ _ _ hf
            intro M23 c24 hf
            refine x_iconst C (v := (0 : Int32)) (by decide) (dkAt dk_L_isLike 45 rfl) 90 rfl ?_
            refine x_istore_n C (L1 := [some (.ref (wad Γ 0)), some (.ref (wad Γ 109)), some (.int (0 : Int32))]) (dkAt dk_L_isLike 46 rfl) 91 rfl rfl (by decide) rfl ?_
            refine G.weak (L := [some (.ref (wad Γ 0)), some (.ref (wad Γ 109)), some (.int (0 : Int32))]) ⟨rfl, rfl, rfl, trivial⟩ ?_
            refine l_L_isLike_L91 hN hC hF hL C E ?_ Z _ _ _ hf
            intro M50 c51 hf
            refine x_iconst C (v := (0 : Int32)) (by decide) (dkAt dk_L_isLike 108 rfl) 193 rfl ?_
            refine x_istore_n C (L1 := [some (.ref (wad Γ 0)), some (.ref (wad Γ 109)), some (.int (0 : Int32))]) (dkAt dk_L_isLike 109 rfl) 194 rfl rfl (by decide) rfl ?_
            refine G.weak (L := [some (.ref (wad Γ 0)), some (.ref (wad Γ 109)), some (.int (0 : Int32))]) ⟨rfl, rfl, rfl, trivial⟩ ?_
            refine l_L_isLike_L194 hN hC hF hL C E ?_ Z _ _ _ hf
            intro M65 c66 hf
            refine x_aload_n C rfl rfl (dkAt dk_L_isLike 138 rfl) 247 rfl ?_
            refine x_getIn C nlk_RL_179 (hL.2.1 109 (18, 17) rfl) (dkAt dk_L_isLike 139 rfl) 250 rfl hf (fun v67 hf => ?_)
            refine x_if_ge C 266 (dkAt dk_L_isLike 140 rfl) 253 rfl (by decide) hf (fun hf => ?_) (fun hf => ?_)
            · refine x_iconst C (v := (1 : Int32)) (by decide) (dkAt dk_L_isLike 149 rfl) 267 rfl ?_
              refine x_goto C 271 (dkAt dk_L_isLike 150 rfl) (by decide) ?_
              obtain ⟨hc9, hf⟩ := if_some hf
              exact x_zret C E (by decide) hf hc9 (Nat.mul_le_mul_left _ hc9) (dkAt dk_L_isLike 152 rfl)
            · refine x_aload_n C rfl rfl (dkAt dk_L_isLike 141 rfl) 254 rfl ?_
              refine x_bipush C (v := (14 : Int32)) (by decide) (dkAt dk_L_isLike 142 rfl) 256 rfl ?_
              refine x_iconst C (v := (0 : Int32)) (by decide) (dkAt dk_L_isLike 143 rfl) 257 rfl ?_
              refine x_iconst C (v := (0 : Int32)) (by decide) (dkAt dk_L_isLike 144 rfl) 258 rfl ?_
              refine x_iconst C (v := (0 : Int32)) (by decide) (dkAt dk_L_isLike 145 rfl) 259 rfl ?_
              obtain ⟨hc, hf⟩ := if_some hf
              obtain ⟨v68, M69, h70, hf⟩ := cl_inv hf
              refine x_cW C (c_L_thrown_14 hN hC h70) mww_L_thrown ln_RL_191 (ro_c (k := 3) (by decide) (by decide) hc (by decide)) rfl rfl (Nat.le_of_ble_eq_true rfl) (dkAt dk_L_isLike 146 rfl) 262 rfl (c66 + 3) (6 * (c66 + 3)) rfl (by show 6 * c66 + 18 = _; omega) ?_
              refine x_iconst C (v := (1 : Int32)) (by decide) (dkAt dk_L_isLike 147 rfl) 263 rfl ?_
              refine x_icmp_ne C 270 (dkAt dk_L_isLike 148 rfl) 266 rfl (by decide) hf (fun hf => ?_) (fun hf => ?_)
              · refine x_iconst C (v := (0 : Int32)) (by decide) (dkAt dk_L_isLike 151 rfl) 271 rfl ?_
                exact nomatch hf
              · refine x_iconst C (v := (1 : Int32)) (by decide) (dkAt dk_L_isLike 149 rfl) 267 rfl ?_
                refine x_goto C 271 (dkAt dk_L_isLike 150 rfl) (by decide) ?_
                obtain ⟨hc9, hf⟩ := if_some hf
                exact x_zret C E (by decide) hf hc9 (Nat.mul_le_mul_left _ hc9) (dkAt dk_L_isLike 152 rfl)
          · refine x_iconst C (v := (0 : Int32)) (by decide) (dkAt dk_L_isLike 25 rfl) 56 rfl ?_
            exact nomatch hf
noncomputable def f_L_flows_L82 (sh : Nat → Option SE) (Z : Nat) (x1 : Int32) (x5 : Int32) (x6 : Int64) (x7 : Int32) (v11 : Int64) (t16 : Int32) (k : Mem → Nat → Option (Int32 × Mem)) : Nat → Int32 → Mem → Nat → Option (Int32 × Mem)
  | 0, _, _, _ => none
  | n + 1, x17, M18, c19 => rdI M18 111 6 x7 (fun v20 => (if v20 ≤ x17 then k M18 c19 else bd (gI M18 (109) 3) (fun v21 => (if v21 ≤ x1 then k M18 c19 else (if c19 + 4 ≤ 700 then clT (f_X11_use Z M18 x7 x17 x1) (fun v22 M23 => rdQ M23 119 6 x7 sh (0, 3) (fun o24 => rdI M23 o24 3 x17 (fun v25 => (if v22 = (v11 * v25.toInt64) then f_L_flows_L82 sh Z x1 x5 x6 x7 v11 t16 k n (x17 + (1 : Int32)) M23 (c19 + 4) else none)))) (fun _ _ => none) else none)))))
noncomputable def f_L_flows_L21 (sh : Nat → Option SE) (Z : Nat) (x1 : Int32) (k : Int32 → Int64 → Mem → Nat → Option (Int32 × Mem)) : Nat → Int32 → Int64 → Int32 → Mem → Nat → Option (Int32 × Mem)
  | 0, _, _, _, _, _ => none
  | n + 1, x5, x6, x7, M8, c9 => bd (gI M8 (109) 1) (fun v10 => (if v10 ≤ x7 then k x5 x6 M8 c9 else (if c9 + 6 ≤ 700 then cl (f_X12_flow sh Z M8 x7 x1) (fun v11 M12 => (if (c9 + 6) + 4 ≤ 700 then clT (f_X11_flow Z M12 x7 x1) (fun v14 M15 => (if v14 = v11 then jn (fun (t16 : Int32) => f_L_flows_L82 sh Z x1 x5 x6 x7 v11 t16 (fun (M26 : Mem) (c27 : Nat) => f_L_flows_L21 sh Z x1 k n (x5 ||| t16) (x6 + v11) (x7 + (1 : Int32)) M26 c27) Z (0 : Int32) M15 ((c9 + 6) + 4)) (fun j28 => (if v11 ≤ (0 : Int64) then j28 (0 : Int32) else j28 ((1 : Int32) <<< (x7 &&& 31)))) else none)) (fun _ _ => none) else none)) else none)))
noncomputable def f_L_flows_L146 (sh : Nat → Option SE) (Z : Nat) (x1 : Int32) (y29 : Int32) (y30 : Int64) (M31 : Mem) (c32 : Nat) (k : Int64 → Option (Int32 × Mem)) : Nat → Int64 → Int32 → Option (Int32 × Mem)
  | 0, _, _ => none
  | n + 1, x33, x34 => (if x1 ≤ x34 then k x33 else f_L_flows_L146 sh Z x1 y29 y30 M31 c32 k n (x33 * (1000 : Int64)) (x34 + (1 : Int32)))
noncomputable def f_L_flows_L2 (sh : Nat → Option SE) (Z : Nat) (k : Mem → Nat → Option (Int32 × Mem)) : Nat → Int32 → Mem → Nat → Option (Int32 × Mem)
  | 0, _, _, _ => none
  | n + 1, x1, M2, c3 => bd (gI M2 (109) 3) (fun v4 => (if v4 < x1 then k M2 c3 else f_L_flows_L21 sh Z x1 (fun (y29 : Int32) (y30 : Int64) (M31 : Mem) (c32 : Nat) => f_L_flows_L146 sh Z x1 y29 y30 M31 c32 (fun (y35 : Int64) => (if y30 = y35 then (if c32 + 2 ≤ 700 then clT (f_X11_reach Z M31 x1) (fun v36 M37 => (if v36 = y29 then f_L_flows_L2 sh Z k n (x1 + (1 : Int32)) M37 (c32 + 2) else none)) (fun _ _ => none) else none) else none)) Z (1 : Int64) (0 : Int32)) Z (0 : Int32) (0 : Int64) (0 : Int32) M2 c3))
noncomputable def f_L_flows (sh : Nat → Option SE) (Z : Nat) (M : Mem)  : Option (Int32 × Mem) :=
  f_L_flows_L2 sh Z (fun (M38 : Mem) (c39 : Nat) => bd (gI M38 (109) 3) (fun v40 => (if c39 + 2 ≤ 700 then cl (f_L_thrown_4 Z M38 (v40 + (1 : Int32)) (0 : Int32) (0 : Int32)) (fun v41 M42 => (if v41 = (3 : Int32) then (if (c39 + 2) + 4 ≤ 700 then cl (f_L_thrown_6 Z M42 (0 : Int32) (-1 : Int32) (0 : Int32)) (fun v44 M45 => (if v44 = (3 : Int32) then bd (gI M45 (109) 3) (fun v47 => (if ((c39 + 2) + 4) + 4 ≤ 700 then cl (f_L_thrown_7 Z M45 (0 : Int32) (0 : Int32) v47) (fun v48 M49 => (if v48 = (3 : Int32) then (if (((c39 + 2) + 4) + 4) ≤ 700 then some ((1 : Int32), M49) else none) else none)) else none)) else none)) else none) else none)) else none))) Z (0 : Int32) M (0)
set_option maxRecDepth 100000 in
theorem l_L_flows_L82 {Γ : WC} {X : MX} {sh : Nat → Option SE} (hN : HN Γ) (hC : NC Γ) (hF : HF Γ) (hL : HLa Γ sh) (C : CX Γ X cL_flows 12 RL (some .boolean) (rmL 60 700 (6 * 700))) {rM : Int32 × Mem} (E : EndN Γ X (some (.int rM.1)) rM.2 700 (6 * 700)) {Z : Nat} {x1 : Int32} {x5 : Int32} {x6 : Int64} {x7 : Int32} {v11 : Int64} {t16 : Int32} {k : Mem → Nat → Option (Int32 × Mem)} (hk : ∀  (Mx : Mem) (cx : Nat), k Mx cx = some rM → G Γ X Mx cx (6 * cx) [some (.ref (wad Γ 0)), some (.ref (wad Γ 109)), some (.int x1), some (.int (x5 ||| t16)), some (.long (x6 + v11)), none, some (.long (1 : Int64)), none, some (.int x7)] [] 137) : ∀ (n : Nat) (x17 : Int32) (M18 : Mem) (c19 : Nat), f_L_flows_L82 sh Z x1 x5 x6 x7 v11 t16 k n x17 M18 c19 = some rM → G Γ X M18 c19 (6 * c19) [some (.ref (wad Γ 0)), some (.ref (wad Γ 109)), some (.int x1), some (.int (x5 ||| t16)), some (.long (x6 + v11)), none, some (.long (1 : Int64)), none, some (.int x7), some (.long v11), none, some (.int x17)] [] 82 := by
  intro n
  induction n with
  | zero =>
    intro x17 M18 c19 hf
    have hf0 : (none : Option _) = some rM := hf
    cases hf0
  | succ n ih =>
    intro x17 M18 c19 hf
    rw [f_L_flows_L82] at hf
    refine x_iload C rfl (dkAt dk_L_flows 50 rfl) 84 rfl ?_
    refine x_aload_n C rfl rfl (dkAt dk_L_flows 51 rfl) 85 rfl ?_
    refine x_getSn C nlk_RL_161 (hL.2.1 109 (18, 17) rfl) (hL.2.2.2 109 7 111 rfl) (dkAt dk_L_flows 52 rfl) 88 rfl ?_
    refine x_iload C rfl (dkAt dk_L_flows 53 rfl) 90 rfl ?_
    refine x_iald C (hL.2.1 111 (0, 6) rfl) (dkAt dk_L_flows 54 rfl) 91 rfl hf (fun v20 hf => ?_)
    refine x_icmp_ge C 137 (dkAt dk_L_flows 55 rfl) 94 rfl (by decide) hf (fun hf => ?_) (fun hf => ?_)
    · exact G.weak (L := [some (.ref (wad Γ 0)), some (.ref (wad Γ 109)), some (.int x1), some (.int (x5 ||| t16)), some (.long (x6 + v11)), none, some (.long (1 : Int64)), none, some (.int x7)]) ⟨rfl, rfl, rfl, rfl, rfl, rfl, rfl, trivial⟩ (hk _ _ hf)
    · refine x_iload_n C rfl rfl (dkAt dk_L_flows 56 rfl) 95 rfl ?_
      refine x_aload_n C rfl rfl (dkAt dk_L_flows 57 rfl) 96 rfl ?_
      refine x_getIn C nlk_RL_146 (hL.2.1 109 (18, 17) rfl) (dkAt dk_L_flows 58 rfl) 99 rfl hf (fun v21 hf => ?_)
      refine x_icmp_ge C 137 (dkAt dk_L_flows 59 rfl) 102 rfl (by decide) hf (fun hf => ?_) (fun hf => ?_)
      · exact G.weak (L := [some (.ref (wad Γ 0)), some (.ref (wad Γ 109)), some (.int x1), some (.int (x5 ||| t16)), some (.long (x6 + v11)), none, some (.long (1 : Int64)), none, some (.int x7)]) ⟨rfl, rfl, rfl, rfl, rfl, rfl, rfl, trivial⟩ (hk _ _ hf)
      · refine x_aload_n C rfl rfl (dkAt dk_L_flows 60 rfl) 103 rfl ?_
        refine x_iload C rfl (dkAt dk_L_flows 61 rfl) 105 rfl ?_
        refine x_iload C rfl (dkAt dk_L_flows 62 rfl) 107 rfl ?_
        refine x_iload_n C rfl rfl (dkAt dk_L_flows 63 rfl) 108 rfl ?_
        obtain ⟨hc, hf⟩ := if_some hf
        refine h_cVl C hf (fun r hr => c_X11_use hN hr) mw_X11_use ln_RL_58 mi_X11_use (hN.rc (ci := 11) sh0 rc11) (ro_c (k := 4) (by decide) (by decide) hc (by decide)) rfl rfl (Nat.le_of_ble_eq_true rfl) (dkAt dk_L_flows 64 rfl) 111 rfl (c19 + 4) (6 * (c19 + 4)) rfl (by show 6 * c19 + 24 = _; omega) (fun v22 M23 hf => ?_) (fun _ _ h => nomatch h)
        refine x_lload C rfl (dkAt dk_L_flows 65 rfl) 113 rfl ?_
        refine x_aload_n C rfl rfl (dkAt dk_L_flows 66 rfl) 114 rfl ?_
        refine x_getSn C nlk_RL_170 (hL.2.1 109 (18, 17) rfl) (hL.2.2.2 109 9 119 rfl) (dkAt dk_L_flows 67 rfl) 117 rfl ?_
        refine x_iload C rfl (dkAt dk_L_flows 68 rfl) 119 rfl ?_
        refine x_qald C (k9 := 1) (n := 6) (by decide) (by decide) (hL.2.1 119 (5, 1006) rfl) (dkAt dk_L_flows 69 rfl) 120 rfl hf (fun o24 h_o24 hf => ?_)
        refine x_iload C rfl (dkAt dk_L_flows 70 rfl) 122 rfl ?_
        refine x_iald C (hL.2.2.1 _ _ h_o24) (dkAt dk_L_flows 71 rfl) 123 rfl hf (fun v25 hf => ?_)
        refine x_i2l C (dkAt dk_L_flows 72 rfl) 124 rfl ?_
        refine x_lmul C (dkAt dk_L_flows 73 rfl) 125 rfl ?_
        refine x_lcmp_eq C 131 (dkAt dk_L_flows 74 rfl) 129 rfl (dkAt dk_L_flows 75 rfl) (by decide) hf (fun hf => ?_) (fun hf => ?_)
        · refine x_iinc C (v := (x17 + (1 : Int32))) (L1 := [some (.ref (wad Γ 0)), some (.ref (wad Γ 109)), some (.int x1), some (.int (x5 ||| t16)), some (.long (x6 + v11)), none, some (.long (1 : Int64)), none, some (.int x7), some (.long v11), none, some (.int (x17 + (1 : Int32)))]) (dkAt dk_L_flows 78 rfl) 134 rfl rfl rfl (by decide) rfl ?_
          refine x_goto C 82 (dkAt dk_L_flows 79 rfl) (by decide) ?_
          exact G.weak (L := [some (.ref (wad Γ 0)), some (.ref (wad Γ 109)), some (.int x1), some (.int (x5 ||| t16)), some (.long (x6 + v11)), none, some (.long (1 : Int64)), none, some (.int x7), some (.long v11), none, some (.int (x17 + (1 : Int32)))]) ⟨rfl, rfl, rfl, rfl, rfl, rfl, rfl, rfl, rfl, trivial⟩ (ih _ _ _ hf)
        · refine x_iconst C (v := (0 : Int32)) (by decide) (dkAt dk_L_flows 76 rfl) 130 rfl ?_
          exact nomatch hf
set_option maxRecDepth 100000 in
theorem l_L_flows_L21 {Γ : WC} {X : MX} {sh : Nat → Option SE} (hN : HN Γ) (hC : NC Γ) (hF : HF Γ) (hL : HLa Γ sh) (C : CX Γ X cL_flows 12 RL (some .boolean) (rmL 60 700 (6 * 700))) {rM : Int32 × Mem} (E : EndN Γ X (some (.int rM.1)) rM.2 700 (6 * 700)) {Z : Nat} {x1 : Int32} {k : Int32 → Int64 → Mem → Nat → Option (Int32 × Mem)} (hk : ∀ (a3 : Int32) (a4 : Int64) (Mx : Mem) (cx : Nat), k a3 a4 Mx cx = some rM → G Γ X Mx cx (6 * cx) [some (.ref (wad Γ 0)), some (.ref (wad Γ 109)), some (.int x1), some (.int a3), some (.long a4), none, some (.long (1 : Int64))] [] 143) : ∀ (n : Nat) (x5 : Int32) (x6 : Int64) (x7 : Int32) (M8 : Mem) (c9 : Nat), f_L_flows_L21 sh Z x1 k n x5 x6 x7 M8 c9 = some rM → G Γ X M8 c9 (6 * c9) [some (.ref (wad Γ 0)), some (.ref (wad Γ 109)), some (.int x1), some (.int x5), some (.long x6), none, some (.long (1 : Int64)), none, some (.int x7)] [] 21 := by
  intro n
  induction n with
  | zero =>
    intro x5 x6 x7 M8 c9 hf
    have hf0 : (none : Option _) = some rM := hf
    cases hf0
  | succ n ih =>
    intro x5 x6 x7 M8 c9 hf
    rw [f_L_flows_L21] at hf
    refine x_iload C rfl (dkAt dk_L_flows 14 rfl) 23 rfl ?_
    refine x_aload_n C rfl rfl (dkAt dk_L_flows 15 rfl) 24 rfl ?_
    refine x_getIn C nlk_RL_133 (hL.2.1 109 (18, 17) rfl) (dkAt dk_L_flows 16 rfl) 27 rfl hf (fun v10 hf => ?_)
    refine x_icmp_ge C 143 (dkAt dk_L_flows 17 rfl) 30 rfl (by decide) hf (fun hf => ?_) (fun hf => ?_)
    · exact G.weak (L := [some (.ref (wad Γ 0)), some (.ref (wad Γ 109)), some (.int x1), some (.int x5), some (.long x6), none, some (.long (1 : Int64))]) ⟨rfl, rfl, rfl, rfl, rfl, rfl, trivial⟩ (hk _ _ _ _ hf)
    · refine x_aload_n C rfl rfl (dkAt dk_L_flows 18 rfl) 31 rfl ?_
      refine x_iload C rfl (dkAt dk_L_flows 19 rfl) 33 rfl ?_
      refine x_iload_n C rfl rfl (dkAt dk_L_flows 20 rfl) 34 rfl ?_
      obtain ⟨hc, hf⟩ := if_some hf
      obtain ⟨v11, M12, h13, hf⟩ := cl_inv hf
      refine x_cVl C (c_X12_flow hL hF h13) mw_X12_flow ln_RL_218 mi_X12_flow (show RC _ 109 RX12 from ⟨12, 17, _, (hL.2.1 109 (18, 17) rfl), rc12, rfl⟩) (ro_c (k := 6) (by decide) (by decide) hc (by decide)) rfl rfl (Nat.le_of_ble_eq_true rfl) (dkAt dk_L_flows 21 rfl) 37 rfl (c9 + 6) (6 * (c9 + 6)) rfl (Nat.mul_add _ _ _).symm ?_
      change G Γ X M12 (c9 + 6) (6 * (c9 + 6)) [some (.ref (wad Γ 0)), some (.ref (wad Γ 109)), some (.int x1), some (.int x5), some (.long x6), none, some (.long (1 : Int64)), none, some (.int x7)] [.long v11] 37
      refine x_lstore C (L1 := [some (.ref (wad Γ 0)), some (.ref (wad Γ 109)), some (.int x1), some (.int x5), some (.long x6), none, some (.long (1 : Int64)), none, some (.int x7), some (.long v11)]) (dkAt dk_L_flows 22 rfl) 39 rfl (by decide) rfl ?_
      refine x_aload_n C rfl rfl (dkAt dk_L_flows 23 rfl) 40 rfl ?_
      refine x_iload C rfl (dkAt dk_L_flows 24 rfl) 42 rfl ?_
      refine x_iload_n C rfl rfl (dkAt dk_L_flows 25 rfl) 43 rfl ?_
      obtain ⟨hc, hf⟩ := if_some hf
      refine h_cVl C hf (fun r hr => c_X11_flow hN hr) mw_X11_flow ln_RL_54 mi_X11_flow (hN.rc (ci := 11) sh0 rc11) (ro_c (k := 4) (by decide) (by decide) hc (by decide)) rfl rfl (Nat.le_of_ble_eq_true rfl) (dkAt dk_L_flows 26 rfl) 46 rfl ((c9 + 6) + 4) (6 * ((c9 + 6) + 4)) rfl (by show 6 * (c9 + 6) + 24 = _; omega) (fun v14 M15 hf => ?_) (fun _ _ h => nomatch h)
      refine x_lload C rfl (dkAt dk_L_flows 27 rfl) 48 rfl ?_
      refine x_lcmp_eq C 54 (dkAt dk_L_flows 28 rfl) 52 rfl (dkAt dk_L_flows 29 rfl) (by decide) hf (fun hf => ?_) (fun hf => ?_)
      · refine x_iload_n C rfl rfl (dkAt dk_L_flows 32 rfl) 55 rfl ?_
        refine x_lload C rfl (dkAt dk_L_flows 33 rfl) 57 rfl ?_
        refine x_lconst C (v := (0 : Int64)) (by decide) (dkAt dk_L_flows 34 rfl) 58 rfl ?_
        refine x_join hf (fun t16 => G Γ X M15 ((c9 + 6) + 4) (6 * ((c9 + 6) + 4)) [some (.ref (wad Γ 0)), some (.ref (wad Γ 109)), some (.int x1), none, some (.long x6), none, some (.long (1 : Int64)), none, some (.int x7), some (.long v11)] [.int t16, .int x5] 70) (fun t16 hf => ?_) (fun j28 hj28 hf => ?_)
        · refine x_ior C (dkAt dk_L_flows 42 rfl) 71 rfl ?_
          refine x_istore_n C (L1 := [some (.ref (wad Γ 0)), some (.ref (wad Γ 109)), some (.int x1), some (.int (x5 ||| t16)), some (.long x6), none, some (.long (1 : Int64)), none, some (.int x7), some (.long v11)]) (dkAt dk_L_flows 43 rfl) 72 rfl rfl (by decide) rfl ?_
          refine x_lload C rfl (dkAt dk_L_flows 44 rfl) 74 rfl ?_
          refine x_lload C rfl (dkAt dk_L_flows 45 rfl) 76 rfl ?_
          refine x_ladd C (dkAt dk_L_flows 46 rfl) 77 rfl ?_
          refine x_lstore C (L1 := [some (.ref (wad Γ 0)), some (.ref (wad Γ 109)), some (.int x1), some (.int (x5 ||| t16)), some (.long (x6 + v11)), none, some (.long (1 : Int64)), none, some (.int x7), some (.long v11)]) (dkAt dk_L_flows 47 rfl) 79 rfl (by decide) rfl ?_
          refine x_iconst C (v := (0 : Int32)) (by decide) (dkAt dk_L_flows 48 rfl) 80 rfl ?_
          refine x_istore C (L1 := [some (.ref (wad Γ 0)), some (.ref (wad Γ 109)), some (.int x1), some (.int (x5 ||| t16)), some (.long (x6 + v11)), none, some (.long (1 : Int64)), none, some (.int x7), some (.long v11), none, some (.int (0 : Int32))]) (dkAt dk_L_flows 49 rfl) 82 rfl (by decide) rfl ?_
          refine G.weak (L := [some (.ref (wad Γ 0)), some (.ref (wad Γ 109)), some (.int x1), some (.int (x5 ||| t16)), some (.long (x6 + v11)), none, some (.long (1 : Int64)), none, some (.int x7), some (.long v11), none, some (.int (0 : Int32))]) ⟨rfl, rfl, rfl, rfl, rfl, rfl, rfl, rfl, rfl, trivial⟩ ?_
          refine l_L_flows_L82 hN hC hF hL C E ?_ Z _ _ _ hf
          intro M26 c27 hf
          refine x_iinc C (v := (x7 + (1 : Int32))) (L1 := [some (.ref (wad Γ 0)), some (.ref (wad Γ 109)), some (.int x1), some (.int (x5 ||| t16)), some (.long (x6 + v11)), none, some (.long (1 : Int64)), none, some (.int (x7 + (1 : Int32)))]) (dkAt dk_L_flows 80 rfl) 140 rfl rfl rfl (by decide) rfl ?_
          refine x_goto C 21 (dkAt dk_L_flows 81 rfl) (by decide) ?_
          exact G.weak (L := [some (.ref (wad Γ 0)), some (.ref (wad Γ 109)), some (.int x1), some (.int (x5 ||| t16)), some (.long (x6 + v11)), none, some (.long (1 : Int64)), none, some (.int (x7 + (1 : Int32)))]) ⟨rfl, rfl, rfl, rfl, rfl, rfl, rfl, trivial⟩ (ih _ _ _ _ _ hf)
        · refine x_lcmp_le C 69 (dkAt dk_L_flows 35 rfl) 62 rfl (dkAt dk_L_flows 36 rfl) (by decide) hf (fun hf => ?_) (fun hf => ?_)
          · refine x_iconst C (v := (0 : Int32)) (by decide) (dkAt dk_L_flows 41 rfl) 70 rfl ?_
            exact G.weak (L := [some (.ref (wad Γ 0)), some (.ref (wad Γ 109)), some (.int x1), none, some (.long x6), none, some (.long (1 : Int64)), none, some (.int x7), some (.long v11)]) ⟨rfl, rfl, rfl, rfl, rfl, rfl, rfl, trivial⟩ (hj28 _ hf)
          · refine x_iconst C (v := (1 : Int32)) (by decide) (dkAt dk_L_flows 37 rfl) 63 rfl ?_
            refine x_iload C rfl (dkAt dk_L_flows 38 rfl) 65 rfl ?_
            refine x_ishl C (dkAt dk_L_flows 39 rfl) 66 rfl ?_
            refine x_goto C 70 (dkAt dk_L_flows 40 rfl) (by decide) ?_
            exact G.weak (L := [some (.ref (wad Γ 0)), some (.ref (wad Γ 109)), some (.int x1), none, some (.long x6), none, some (.long (1 : Int64)), none, some (.int x7), some (.long v11)]) ⟨rfl, rfl, rfl, rfl, rfl, rfl, rfl, trivial⟩ (hj28 _ hf)
      · refine x_iconst C (v := (0 : Int32)) (by decide) (dkAt dk_L_flows 30 rfl) 53 rfl ?_
        exact nomatch hf
set_option maxRecDepth 100000 in
theorem l_L_flows_L146 {Γ : WC} {X : MX} {sh : Nat → Option SE} (hN : HN Γ) (hC : NC Γ) (hF : HF Γ) (hL : HLa Γ sh) (C : CX Γ X cL_flows 12 RL (some .boolean) (rmL 60 700 (6 * 700))) {rM : Int32 × Mem} (E : EndN Γ X (some (.int rM.1)) rM.2 700 (6 * 700)) {Z : Nat} {x1 : Int32} {y29 : Int32} {y30 : Int64} {M31 : Mem} {c32 : Nat} {k : Int64 → Option (Int32 × Mem)} (hk : ∀ (a6 : Int64), k a6 = some rM → G Γ X M31 c32 (6 * c32) [some (.ref (wad Γ 0)), some (.ref (wad Γ 109)), some (.int x1), some (.int y29), some (.long y30), none, some (.long a6)] [] 166) : ∀ (n : Nat) (x33 : Int64) (x34 : Int32), f_L_flows_L146 sh Z x1 y29 y30 M31 c32 k n x33 x34 = some rM → G Γ X M31 c32 (6 * c32) [some (.ref (wad Γ 0)), some (.ref (wad Γ 109)), some (.int x1), some (.int y29), some (.long y30), none, some (.long x33), none, some (.int x34)] [] 146 := by
  intro n
  induction n with
  | zero =>
    intro x33 x34 hf
    have hf0 : (none : Option _) = some rM := hf
    cases hf0
  | succ n ih =>
    intro x33 x34 hf
    rw [f_L_flows_L146] at hf
    refine x_iload C rfl (dkAt dk_L_flows 84 rfl) 148 rfl ?_
    refine x_iload_n C rfl rfl (dkAt dk_L_flows 85 rfl) 149 rfl ?_
    refine x_icmp_ge C 166 (dkAt dk_L_flows 86 rfl) 152 rfl (by decide) hf (fun hf => ?_) (fun hf => ?_)
    · exact G.weak (L := [some (.ref (wad Γ 0)), some (.ref (wad Γ 109)), some (.int x1), some (.int y29), some (.long y30), none, some (.long x33)]) ⟨rfl, rfl, rfl, rfl, rfl, rfl, trivial⟩ (hk _ hf)
    · refine x_lload C rfl (dkAt dk_L_flows 87 rfl) 154 rfl ?_
      refine x_ldc2 C (v := (1000 : Int64)) cl_RL_219 (dkAt dk_L_flows 88 rfl) 157 rfl ?_
      refine x_lmul C (dkAt dk_L_flows 89 rfl) 158 rfl ?_
      refine x_lstore C (L1 := [some (.ref (wad Γ 0)), some (.ref (wad Γ 109)), some (.int x1), some (.int y29), some (.long y30), none, some (.long (x33 * (1000 : Int64))), none, some (.int x34)]) (dkAt dk_L_flows 90 rfl) 160 rfl (by decide) rfl ?_
      refine x_iinc C (v := (x34 + (1 : Int32))) (L1 := [some (.ref (wad Γ 0)), some (.ref (wad Γ 109)), some (.int x1), some (.int y29), some (.long y30), none, some (.long (x33 * (1000 : Int64))), none, some (.int (x34 + (1 : Int32)))]) (dkAt dk_L_flows 91 rfl) 163 rfl rfl rfl (by decide) rfl ?_
      refine x_goto C 146 (dkAt dk_L_flows 92 rfl) (by decide) ?_
      exact G.weak (L := [some (.ref (wad Γ 0)), some (.ref (wad Γ 109)), some (.int x1), some (.int y29), some (.long y30), none, some (.long (x33 * (1000 : Int64))), none, some (.int (x34 + (1 : Int32)))]) ⟨rfl, rfl, rfl, rfl, rfl, rfl, rfl, trivial⟩ (ih _ _ hf)
set_option maxRecDepth 100000 in
theorem l_L_flows_L2 {Γ : WC} {X : MX} {sh : Nat → Option SE} (hN : HN Γ) (hC : NC Γ) (hF : HF Γ) (hL : HLa Γ sh) (C : CX Γ X cL_flows 12 RL (some .boolean) (rmL 60 700 (6 * 700))) {rM : Int32 × Mem} (E : EndN Γ X (some (.int rM.1)) rM.2 700 (6 * 700)) {Z : Nat} {k : Mem → Nat → Option (Int32 × Mem)} (hk : ∀  (Mx : Mem) (cx : Nat), k Mx cx = some rM → G Γ X Mx cx (6 * cx) [some (.ref (wad Γ 0)), some (.ref (wad Γ 109))] [] 191) : ∀ (n : Nat) (x1 : Int32) (M2 : Mem) (c3 : Nat), f_L_flows_L2 sh Z k n x1 M2 c3 = some rM → G Γ X M2 c3 (6 * c3) [some (.ref (wad Γ 0)), some (.ref (wad Γ 109)), some (.int x1)] [] 2 := by
  intro n
  induction n with
  | zero =>
    intro x1 M2 c3 hf
    have hf0 : (none : Option _) = some rM := hf
    cases hf0
  | succ n ih =>
    intro x1 M2 c3 hf
    rw [f_L_flows_L2] at hf
    refine x_iload_n C rfl rfl (dkAt dk_L_flows 2 rfl) 3 rfl ?_
    refine x_aload_n C rfl rfl (dkAt dk_L_flows 3 rfl) 4 rfl ?_
    refine x_getIn C nlk_RL_146 (hL.2.1 109 (18, 17) rfl) (dkAt dk_L_flows 4 rfl) 7 rfl hf (fun v4 hf => ?_)
    refine x_icmp_gt C 191 (dkAt dk_L_flows 5 rfl) 10 rfl (by decide) hf (fun hf => ?_) (fun hf => ?_)
    · exact G.weak (L := [some (.ref (wad Γ 0)), some (.ref (wad Γ 109))]) ⟨rfl, rfl, trivial⟩ (hk _ _ hf)
    · refine x_iconst C (v := (0 : Int32)) (by decide) (dkAt dk_L_flows 6 rfl) 11 rfl ?_
      refine x_istore_n C (L1 := [some (.ref (wad Γ 0)), some (.ref (wad Γ 109)), some (.int x1), some (.int (0 : Int32))]) (dkAt dk_L_flows 7 rfl) 12 rfl rfl (by decide) rfl ?_
      refine x_lconst C (v := (0 : Int64)) (by decide) (dkAt dk_L_flows 8 rfl) 13 rfl ?_
      refine x_lstore C (L1 := [some (.ref (wad Γ 0)), some (.ref (wad Γ 109)), some (.int x1), some (.int (0 : Int32)), some (.long (0 : Int64))]) (dkAt dk_L_flows 9 rfl) 15 rfl (by decide) rfl ?_
      refine x_lconst C (v := (1 : Int64)) (by decide) (dkAt dk_L_flows 10 rfl) 16 rfl ?_
      refine x_lstore C (L1 := [some (.ref (wad Γ 0)), some (.ref (wad Γ 109)), some (.int x1), some (.int (0 : Int32)), some (.long (0 : Int64)), none, some (.long (1 : Int64))]) (dkAt dk_L_flows 11 rfl) 18 rfl (by decide) rfl ?_
      refine x_iconst C (v := (0 : Int32)) (by decide) (dkAt dk_L_flows 12 rfl) 19 rfl ?_
      refine x_istore C (L1 := [some (.ref (wad Γ 0)), some (.ref (wad Γ 109)), some (.int x1), some (.int (0 : Int32)), some (.long (0 : Int64)), none, some (.long (1 : Int64)), none, some (.int (0 : Int32))]) (dkAt dk_L_flows 13 rfl) 21 rfl (by decide) rfl ?_
      refine G.weak (L := [some (.ref (wad Γ 0)), some (.ref (wad Γ 109)), some (.int x1), some (.int (0 : Int32)), some (.long (0 : Int64)), none, some (.long (1 : Int64)), none, some (.int (0 : Int32))]) ⟨rfl, rfl, rfl, rfl, rfl, rfl, rfl, trivial⟩ ?_
      refine l_L_flows_L21 hN hC hF hL C E ?_ Z _ _ _ _ _ hf
      intro y29 y30 M31 c32 hf
      refine x_iconst C (v := (0 : Int32)) (by decide) (dkAt dk_L_flows 82 rfl) 144 rfl ?_
      refine x_istore C (L1 := [some (.ref (wad Γ 0)), some (.ref (wad Γ 109)), some (.int x1), some (.int y29), some (.long y30), none, some (.long (1 : Int64)), none, some (.int (0 : Int32))]) (dkAt dk_L_flows 83 rfl) 146 rfl (by decide) rfl ?_
      refine G.weak (L := [some (.ref (wad Γ 0)), some (.ref (wad Γ 109)), some (.int x1), some (.int y29), some (.long y30), none, some (.long (1 : Int64)), none, some (.int (0 : Int32))]) ⟨rfl, rfl, rfl, rfl, rfl, rfl, rfl, trivial⟩ ?_
      refine l_L_flows_L146 hN hC hF hL C E ?_ Z _ _ hf
      intro y35 hf
      refine x_lload C rfl (dkAt dk_L_flows 93 rfl) 168 rfl ?_
      refine x_lload C rfl (dkAt dk_L_flows 94 rfl) 170 rfl ?_
      refine x_lcmp_ne C 183 (dkAt dk_L_flows 95 rfl) 174 rfl (dkAt dk_L_flows 96 rfl) (by decide) hf (fun hf => ?_) (fun hf => ?_)
      · refine x_iconst C (v := (0 : Int32)) (by decide) (dkAt dk_L_flows 102 rfl) 184 rfl ?_
        exact nomatch hf
      · refine x_aload_n C rfl rfl (dkAt dk_L_flows 97 rfl) 175 rfl ?_
        refine x_iload_n C rfl rfl (dkAt dk_L_flows 98 rfl) 176 rfl ?_
        obtain ⟨hc, hf⟩ := if_some hf
        refine h_cVi C hf (fun r hr => c_X11_reach hN hr) mw_X11_reach ln_RL_47 mi_X11_reach (hN.rc (ci := 11) sh0 rc11) (ro_c (k := 2) (by decide) (by decide) hc (by decide)) rfl rfl (Nat.le_of_ble_eq_true rfl) (dkAt dk_L_flows 99 rfl) 179 rfl (c32 + 2) (6 * (c32 + 2)) rfl (by show 6 * c32 + 12 = _; omega) (fun v36 M37 hf => ?_) (fun _ _ h => nomatch h)
        refine x_iload_n C rfl rfl (dkAt dk_L_flows 100 rfl) 180 rfl ?_
        refine x_icmp_eq C 185 (dkAt dk_L_flows 101 rfl) 183 rfl (by decide) hf (fun hf => ?_) (fun hf => ?_)
        · refine x_iinc C (v := (x1 + (1 : Int32))) (L1 := [some (.ref (wad Γ 0)), some (.ref (wad Γ 109)), some (.int (x1 + (1 : Int32))), some (.int y29), some (.long y30), none, some (.long y35)]) (dkAt dk_L_flows 104 rfl) 188 rfl rfl rfl (by decide) rfl ?_
          refine x_goto C 2 (dkAt dk_L_flows 105 rfl) (by decide) ?_
          exact G.weak (L := [some (.ref (wad Γ 0)), some (.ref (wad Γ 109)), some (.int (x1 + (1 : Int32)))]) ⟨rfl, rfl, rfl, trivial⟩ (ih _ _ _ hf)
        · refine x_iconst C (v := (0 : Int32)) (by decide) (dkAt dk_L_flows 102 rfl) 184 rfl ?_
          exact nomatch hf
set_option maxRecDepth 100000 in
theorem c_L_flows {Γ : WC} {sh : Nat → Option SE} (hN : HN Γ) (hC : NC Γ) (hF : HF Γ) (hL : HLa Γ sh) {Z : Nat} {M : Mem}  {rM : Int32 × Mem} (hf : f_L_flows sh Z M  = some rM) : Ct Γ yL_flows cL_flows 12 (some .boolean) (rmL 60 700 (6 * 700)) [.ref (wad Γ 0), .ref (wad Γ 109)] M (some (.int rM.1)) rM.2 := by
  refine mkN hL.1.1 (own := RL) rfl (by decide) (Nat.le_of_ble_eq_true rfl) (fun X C E => ?_)
  change G Γ X M (0) (6 * (0)) [some (.ref (wad Γ 0)), some (.ref (wad Γ 109))] [] 0
  unfold f_L_flows at hf
  refine x_iconst C (v := (0 : Int32)) (by decide) (dkAt dk_L_flows 0 rfl) 1 rfl ?_
  refine x_istore_n C (L1 := [some (.ref (wad Γ 0)), some (.ref (wad Γ 109)), some (.int (0 : Int32))]) (dkAt dk_L_flows 1 rfl) 2 rfl rfl (by decide) rfl ?_
  refine G.weak (L := [some (.ref (wad Γ 0)), some (.ref (wad Γ 109)), some (.int (0 : Int32))]) ⟨rfl, rfl, rfl, trivial⟩ ?_
  refine l_L_flows_L2 hN hC hF hL C E ?_ Z _ _ _ hf
  intro M38 c39 hf
  refine x_aload_n C rfl rfl (dkAt dk_L_flows 106 rfl) 192 rfl ?_
  refine x_iconst C (v := (4 : Int32)) (by decide) (dkAt dk_L_flows 107 rfl) 193 rfl ?_
  refine x_aload_n C rfl rfl (dkAt dk_L_flows 108 rfl) 194 rfl ?_
  refine x_getIn C nlk_RL_146 (hL.2.1 109 (18, 17) rfl) (dkAt dk_L_flows 109 rfl) 197 rfl hf (fun v40 hf => ?_)
  refine x_iconst C (v := (1 : Int32)) (by decide) (dkAt dk_L_flows 110 rfl) 198 rfl ?_
  refine x_iadd C (dkAt dk_L_flows 111 rfl) 199 rfl ?_
  refine x_iconst C (v := (0 : Int32)) (by decide) (dkAt dk_L_flows 112 rfl) 200 rfl ?_
  refine x_iconst C (v := (0 : Int32)) (by decide) (dkAt dk_L_flows 113 rfl) 201 rfl ?_
  obtain ⟨hc, hf⟩ := if_some hf
  obtain ⟨v41, M42, h43, hf⟩ := cl_inv hf
  refine x_cW C (c_L_thrown_4 hN hC h43) mww_L_thrown ln_RL_191 (ro_c (k := 2) (by decide) (by decide) hc (by decide)) rfl rfl (Nat.le_of_ble_eq_true rfl) (dkAt dk_L_flows 114 rfl) 204 rfl (c39 + 2) (6 * (c39 + 2)) rfl (by show 6 * c39 + 12 = _; omega) ?_
  refine x_iconst C (v := (3 : Int32)) (by decide) (dkAt dk_L_flows 115 rfl) 205 rfl ?_
  refine x_icmp_ne C 241 (dkAt dk_L_flows 116 rfl) 208 rfl (by decide) hf (fun hf => ?_) (fun hf => ?_)
  · refine x_iconst C (v := (0 : Int32)) (by decide) (dkAt dk_L_flows 136 rfl) 242 rfl ?_
    exact nomatch hf
  · refine x_aload_n C rfl rfl (dkAt dk_L_flows 117 rfl) 209 rfl ?_
    refine x_bipush C (v := (6 : Int32)) (by decide) (dkAt dk_L_flows 118 rfl) 211 rfl ?_
    refine x_iconst C (v := (0 : Int32)) (by decide) (dkAt dk_L_flows 119 rfl) 212 rfl ?_
    refine x_iconst C (v := (-1 : Int32)) (by decide) (dkAt dk_L_flows 120 rfl) 213 rfl ?_
    refine x_iconst C (v := (0 : Int32)) (by decide) (dkAt dk_L_flows 121 rfl) 214 rfl ?_
    obtain ⟨hc, hf⟩ := if_some hf
    obtain ⟨v44, M45, h46, hf⟩ := cl_inv hf
    refine x_cW C (c_L_thrown_6 hN hC h46) mww_L_thrown ln_RL_191 (ro_c (k := 4) (by decide) (by decide) hc (by decide)) rfl rfl (Nat.le_of_ble_eq_true rfl) (dkAt dk_L_flows 122 rfl) 217 rfl ((c39 + 2) + 4) (6 * ((c39 + 2) + 4)) rfl (by show 6 * (c39 + 2) + 24 = _; omega) ?_
    refine x_iconst C (v := (3 : Int32)) (by decide) (dkAt dk_L_flows 123 rfl) 218 rfl ?_
    refine x_icmp_ne C 241 (dkAt dk_L_flows 124 rfl) 221 rfl (by decide) hf (fun hf => ?_) (fun hf => ?_)
    · refine x_iconst C (v := (0 : Int32)) (by decide) (dkAt dk_L_flows 136 rfl) 242 rfl ?_
      exact nomatch hf
    · refine x_aload_n C rfl rfl (dkAt dk_L_flows 125 rfl) 222 rfl ?_
      refine x_bipush C (v := (7 : Int32)) (by decide) (dkAt dk_L_flows 126 rfl) 224 rfl ?_
      refine x_iconst C (v := (0 : Int32)) (by decide) (dkAt dk_L_flows 127 rfl) 225 rfl ?_
      refine x_iconst C (v := (0 : Int32)) (by decide) (dkAt dk_L_flows 128 rfl) 226 rfl ?_
      refine x_aload_n C rfl rfl (dkAt dk_L_flows 129 rfl) 227 rfl ?_
      refine x_getIn C nlk_RL_146 (hL.2.1 109 (18, 17) rfl) (dkAt dk_L_flows 130 rfl) 230 rfl hf (fun v47 hf => ?_)
      obtain ⟨hc, hf⟩ := if_some hf
      obtain ⟨v48, M49, h50, hf⟩ := cl_inv hf
      refine x_cW C (c_L_thrown_7 hN hC h50) mww_L_thrown ln_RL_191 (ro_c (k := 4) (by decide) (by decide) hc (by decide)) rfl rfl (Nat.le_of_ble_eq_true rfl) (dkAt dk_L_flows 131 rfl) 233 rfl (((c39 + 2) + 4) + 4) (6 * (((c39 + 2) + 4) + 4)) rfl (by show 6 * ((c39 + 2) + 4) + 24 = _; omega) ?_
      refine x_iconst C (v := (3 : Int32)) (by decide) (dkAt dk_L_flows 132 rfl) 234 rfl ?_
      refine x_icmp_ne C 241 (dkAt dk_L_flows 133 rfl) 237 rfl (by decide) hf (fun hf => ?_) (fun hf => ?_)
      · refine x_iconst C (v := (0 : Int32)) (by decide) (dkAt dk_L_flows 136 rfl) 242 rfl ?_
        exact nomatch hf
      · refine x_iconst C (v := (1 : Int32)) (by decide) (dkAt dk_L_flows 134 rfl) 238 rfl ?_
        refine x_goto C 242 (dkAt dk_L_flows 135 rfl) (by decide) ?_
        obtain ⟨hc9, hf⟩ := if_some hf
        exact x_zret C E (by decide) hf hc9 (Nat.mul_le_mul_left _ hc9) (dkAt dk_L_flows 137 rfl)
