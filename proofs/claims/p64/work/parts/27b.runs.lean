noncomputable def f_L_runs_L73 (sh : Nat → Option SE) (Z : Nat) (k : Int32 → Mem → Nat → Option (Int32 × Mem)) : Nat → Int32 → Int32 → Mem → Nat → Option (Int32 × Mem)
  | 0, _, _, _, _ => none
  | n + 1, x23, x24, M25, c26 => bd (gI M25 (109) 2) (fun v27 => (if v27 ≤ x24 then k x23 M25 c26 else bd (gI M25 (109) 5) (fun v28 => bd (gI M25 (109) 3) (fun v29 => (if c26 + 0 ≤ 700 then cl (f_X12_mean sh Z M25 v28 v29 x24) (fun v30 M31 => rdI M31 110 3 x24 (fun v33 => (if c26 + 0 ≤ 700 then cl (f_X12_unit sh Z M31) (fun v34 M35 => (if c26 + 2 ≤ 700 then clT (f_X11_usedOfRun Z M35 x24) (fun v37 M38 => (if v37 = v30 then (if (c26 + 2) + 2 ≤ 700 then clT (f_X11_left Z M38 x24) (fun v39 M40 => (if v39 = ((v33.toInt64 * v34) - v30) then jn (fun (t41 : Int32) => f_L_runs_L73 sh Z k n (x23 ||| t41) (x24 + (1 : Int32)) M40 ((c26 + 2) + 2)) (fun j42 => (if (0 : Int64) ≤ ((v33.toInt64 * v34) - v30) then j42 (0 : Int32) else j42 ((1 : Int32) <<< (x24 &&& 31)))) else none)) (fun _ _ => none) else none) else none)) (fun _ _ => none) else none)) else none))) else none)))))
noncomputable def f_L_runs_L195 (sh : Nat → Option SE) (Z : Nat) (y43 : Int32) (x46 : Int32) (x47 : Int32) (x48 : Int32) (v52 : Int32) (k : Int32 → Int64 → Mem → Nat → Option (Int32 × Mem)) : Nat → Int32 → Int64 → Int32 → Mem → Nat → Option (Int32 × Mem)
  | 0, _, _, _, _, _ => none
  | n + 1, x54, x55, x56, M57, c58 => bd (gI M57 (109) 3) (fun v59 => (if v59 < x56 then k x54 x55 M57 c58 else (if c58 + 6 ≤ 700 then cl (f_X12_flow sh Z M57 v52 x56) (fun v60 M61 => jn (fun (t63 : Int32 × Mem × Nat) => f_L_runs_L195 sh Z y43 x46 x47 x48 v52 k n t63.1 (((1000 : Int64) * x55) + v60) (x56 + (1 : Int32)) t63.2.1 t63.2.2) (fun j64 => jn (fun (t65 : Mem × Nat) => j64 (x54, t65.1, t65.2)) (fun j66 => (if 0 ≤ x54 then j66 (M61, (c58 + 6)) else (if (c58 + 6) + 6 ≤ 700 then cl (f_X12_flow sh Z M61 v52 x56) (fun v67 M68 => (if v67 ≤ (0 : Int64) then j66 (M68, ((c58 + 6) + 6)) else j64 (x56, M68, ((c58 + 6) + 6)))) else none))))) else none)))
noncomputable def f_L_runs_L169 (sh : Nat → Option SE) (Z : Nat) (y43 : Int32) (k : Int32 → Mem → Nat → Option (Int32 × Mem)) : Nat → Int32 → Int32 → Int32 → Mem → Nat → Option (Int32 × Mem)
  | 0, _, _, _, _, _ => none
  | n + 1, x46, x47, x48, M49, c50 => bd (gI M49 (109) 1) (fun v51 => (if v51 ≤ x48 then k x46 M49 c50 else (if c50 + 2 ≤ 700 then clT (f_X11_busiest Z M49 x48) (fun v52 M53 => f_L_runs_L195 sh Z y43 x46 x47 x48 v52 (fun (y70 : Int32) (y71 : Int64) (M72 : Mem) (c73 : Nat) => (if c73 + 2 ≤ 700 then clT (f_X11_visits Z M72 v52) (fun v74 M75 => (if v74 = y71 then (if (c73 + 2) + 2 ≤ 700 then clT (f_X11_firstTime Z M75 v52) (fun v76 M77 => (if v76 = y70 then (if ((c73 + 2) + 2) + 2 ≤ 700 then clT (f_X11_hit Z M77 v52) (fun v78 M79 => bd (gI M79 (109) 5) (fun v80 => bd (gI M79 (109) 3) (fun v81 => (if (((c73 + 2) + 2) + 2) + 0 ≤ 700 then cl (f_L_hit sh Z M79 v80 v52 v81) (fun v82 M83 => (if v78 = v82 then jn (fun (t85 : Mem × Nat) => f_L_runs_L169 sh Z y43 k n (x46 ||| ((1 : Int32) <<< (v52 &&& 31))) v52 (x48 + (1 : Int32)) t85.1 t85.2) (fun j86 => (if x47 < 0 then j86 (M83, (((c73 + 2) + 2) + 2)) else (if (((c73 + 2) + 2) + 2) + 2 ≤ 700 then clT (f_X11_visits Z M83 x47) (fun v87 M88 => (if v87 < y71 then none else (if ((((c73 + 2) + 2) + 2) + 2) + 2 ≤ 700 then clT (f_X11_visits Z M88 x47) (fun v89 M90 => (if v89 = y71 then (if x47 ≤ v52 then j86 (M90, (((((c73 + 2) + 2) + 2) + 2) + 2)) else none) else j86 (M90, (((((c73 + 2) + 2) + 2) + 2) + 2)))) (fun _ _ => none) else none))) (fun _ _ => none) else none))) else none)) else none)))) (fun _ _ => none) else none) else none)) (fun _ _ => none) else none) else none)) (fun _ _ => none) else none)) Z (-1 : Int32) (0 : Int64) (0 : Int32) M53 (c50 + 2)) (fun _ _ => none) else none)))
noncomputable def f_L_runs (sh : Nat → Option SE) (Z : Nat) (M : Mem)  : Option (Int32 × Mem) :=
  (if 0 + 1 ≤ 700 then clT (f_X11_unit Z M) (fun v1 M2 => (if (0 + 1) + 0 ≤ 700 then cl (f_X12_unit sh Z M2) (fun v3 M4 => (if v1 = v3 then (if (0 + 1) + 1 ≤ 700 then clT (f_X11_gainOfRun Z M4) (fun v6 M7 => bd (gI M7 (109) 5) (fun v8 => bd (gI M7 (109) 3) (fun v9 => (if ((0 + 1) + 1) + 0 ≤ 700 then cl (f_X12_mean sh Z M7 v8 v9 (-1 : Int32)) (fun v10 M11 => (if v6 = v10 then (if ((0 + 1) + 1) + 1 ≤ 700 then clT (f_X11_meanGain Z M11) (fun v13 M14 => bd (gI M14 (109) 5) (fun v15 => bd (gI M14 (109) 3) (fun v16 => (if (((0 + 1) + 1) + 1) + 0 ≤ 700 then cl (f_X12_mean sh Z M14 v15 v16 (-1 : Int32)) (fun v17 M18 => (if (((0 + 1) + 1) + 1) + 0 ≤ 700 then cl (f_X12_unit sh Z M18) (fun v20 M21 => okF (FP.fdiv (FP.l2f v17) (FP.l2f v20)) ((if (Op.cmpValue (FP.fcmp v13 (FP.fdiv (FP.l2f v17) (FP.l2f v20))) .l) = 0 then f_L_runs_L73 sh Z (fun (y43 : Int32) (M44 : Mem) (c45 : Nat) => f_L_runs_L169 sh Z y43 (fun (y91 : Int32) (M92 : Mem) (c93 : Nat) => (if c93 + 1 ≤ 700 then clT (f_X11_broken Z M92) (fun v94 M95 => (if v94 = y43 then bd (gI M95 (109) 1) (fun v96 => (if y91 = (((1 : Int32) <<< (v96 &&& 31)) - (1 : Int32)) then bd (gI M95 (109) 1) (fun v97 => (if (c93 + 1) + 2 ≤ 700 then cl (f_L_thrown_8 Z M95 v97 (0 : Int32) (0 : Int32)) (fun v98 M99 => (if v98 = (2 : Int32) then (if ((c93 + 1) + 2) ≤ 700 then some ((1 : Int32), M99) else none) else none)) else none)) else none)) else none)) (fun _ _ => none) else none)) Z (0 : Int32) (-1 : Int32) (0 : Int32) M44 c45) Z (0 : Int32) (0 : Int32) M21 (((0 + 1) + 1) + 1) else none))) else none)) else none)))) (fun _ _ => none) else none) else none)) else none)))) (fun _ _ => none) else none) else none)) else none)) (fun _ _ => none) else none)
set_option maxRecDepth 100000 in
theorem l_L_runs_L73 {Γ : WC} {X : MX} {sh : Nat → Option SE} (hN : HN Γ) (hC : NC Γ) (hF : HF Γ) (hL : HLa Γ sh) (C : CX Γ X cL_runs 11 RL (some .boolean) (rmL 60 700 (6 * 700))) {rM : Int32 × Mem} (E : EndN Γ X (some (.int rM.1)) rM.2 700 (6 * 700)) {Z : Nat} {k : Int32 → Mem → Nat → Option (Int32 × Mem)} (hk : ∀ (a2 : Int32) (Mx : Mem) (cx : Nat), k a2 Mx cx = some rM → G Γ X Mx cx (6 * cx) [some (.ref (wad Γ 0)), some (.ref (wad Γ 109)), some (.int a2), some (.int (0 : Int32)), some (.int (-1 : Int32))] [] 166) : ∀ (n : Nat) (x23 : Int32) (x24 : Int32) (M25 : Mem) (c26 : Nat), f_L_runs_L73 sh Z k n x23 x24 M25 c26 = some rM → G Γ X M25 c26 (6 * c26) [some (.ref (wad Γ 0)), some (.ref (wad Γ 109)), some (.int x23), some (.int (0 : Int32)), some (.int (-1 : Int32)), some (.int x24)] [] 73 := by
  intro n
  induction n with
  | zero =>
    intro x23 x24 M25 c26 hf
    have hf0 : (none : Option _) = some rM := hf
    cases hf0
  | succ n ih =>
    intro x23 x24 M25 c26 hf
    rw [f_L_runs_L73] at hf
    refine x_iload C rfl (dkAt dk_L_runs_0 43 rfl) 75 rfl ?_
    refine x_aload_n C rfl rfl (dkAt dk_L_runs_0 44 rfl) 76 rfl ?_
    refine x_getIn C nlk_RL_141 (hL.2.1 109 (18, 17) rfl) (dkAt dk_L_runs_0 45 rfl) 79 rfl hf (fun v27 hf => ?_)
    refine x_icmp_ge C 166 (dkAt dk_L_runs_0 46 rfl) 82 rfl (by decide) hf (fun hf => ?_) (fun hf => ?_)
    · exact G.weak (L := [some (.ref (wad Γ 0)), some (.ref (wad Γ 109)), some (.int x23), some (.int (0 : Int32)), some (.int (-1 : Int32))]) ⟨rfl, rfl, rfl, rfl, rfl, trivial⟩ (hk _ _ _ hf)
    · refine x_aload_n C rfl rfl (dkAt dk_L_runs_0 47 rfl) 83 rfl ?_
      refine x_aload_n C rfl rfl (dkAt dk_L_runs_1 0 rfl) 84 rfl ?_
      refine x_getIn C nlk_RL_153 (hL.2.1 109 (18, 17) rfl) (dkAt dk_L_runs_1 1 rfl) 87 rfl hf (fun v28 hf => ?_)
      refine x_aload_n C rfl rfl (dkAt dk_L_runs_1 2 rfl) 88 rfl ?_
      refine x_getIn C nlk_RL_146 (hL.2.1 109 (18, 17) rfl) (dkAt dk_L_runs_1 3 rfl) 91 rfl hf (fun v29 hf => ?_)
      refine x_iload C rfl (dkAt dk_L_runs_1 4 rfl) 93 rfl ?_
      obtain ⟨hc, hf⟩ := if_some hf
      obtain ⟨v30, M31, h32, hf⟩ := cl_inv hf
      refine x_cVl C (c_X12_mean hL h32) mw_X12_mean ln_RL_236 mi_X12_mean (show RC _ 109 RX12 from ⟨12, 17, _, (hL.2.1 109 (18, 17) rfl), rc12, rfl⟩) (ro_c (k := 0) (by decide) (by decide) hc (by decide)) rfl rfl (Nat.le_of_ble_eq_true rfl) (dkAt dk_L_runs_1 5 rfl) 96 rfl _ _ rfl rfl ?_
      change G Γ X M31 c26 (6 * c26) [some (.ref (wad Γ 0)), some (.ref (wad Γ 109)), some (.int x23), some (.int (0 : Int32)), some (.int (-1 : Int32)), some (.int x24)] [.long v30] 96
      refine x_lstore C (L1 := [some (.ref (wad Γ 0)), some (.ref (wad Γ 109)), some (.int x23), some (.int (0 : Int32)), some (.int (-1 : Int32)), some (.int x24), some (.long v30)]) (dkAt dk_L_runs_1 6 rfl) 98 rfl (by decide) rfl ?_
      refine x_aload_n C rfl rfl (dkAt dk_L_runs_1 7 rfl) 99 rfl ?_
      refine x_getSn C nlk_RL_155 (hL.2.1 109 (18, 17) rfl) (hL.2.2.2 109 6 110 rfl) (dkAt dk_L_runs_1 8 rfl) 102 rfl ?_
      refine x_iload C rfl (dkAt dk_L_runs_1 9 rfl) 104 rfl ?_
      refine x_iald C (hL.2.1 110 (0, 3) rfl) (dkAt dk_L_runs_1 10 rfl) 105 rfl hf (fun v33 hf => ?_)
      refine x_i2l C (dkAt dk_L_runs_1 11 rfl) 106 rfl ?_
      refine x_aload_n C rfl rfl (dkAt dk_L_runs_1 12 rfl) 107 rfl ?_
      obtain ⟨hc, hf⟩ := if_some hf
      obtain ⟨v34, M35, h36, hf⟩ := cl_inv hf
      refine x_cVl C (c_X12_unit hL h36) mw_X12_unit ln_RL_232 mi_X12_unit (show RC _ 109 RX12 from ⟨12, 17, _, (hL.2.1 109 (18, 17) rfl), rc12, rfl⟩) (ro_c (k := 0) (by decide) (by decide) hc (by decide)) rfl rfl (Nat.le_of_ble_eq_true rfl) (dkAt dk_L_runs_1 13 rfl) 110 rfl _ _ rfl rfl ?_
      change G Γ X M35 c26 (6 * c26) [some (.ref (wad Γ 0)), some (.ref (wad Γ 109)), some (.int x23), some (.int (0 : Int32)), some (.int (-1 : Int32)), some (.int x24), some (.long v30)] [.long v34, .long v33.toInt64] 110
      refine x_lmul C (dkAt dk_L_runs_1 14 rfl) 111 rfl ?_
      refine x_lload C rfl (dkAt dk_L_runs_1 15 rfl) 113 rfl ?_
      refine x_lsub C (dkAt dk_L_runs_1 16 rfl) 114 rfl ?_
      refine x_lstore C (L1 := [some (.ref (wad Γ 0)), some (.ref (wad Γ 109)), some (.int x23), some (.int (0 : Int32)), some (.int (-1 : Int32)), some (.int x24), some (.long v30), none, some (.long ((v33.toInt64 * v34) - v30))]) (dkAt dk_L_runs_1 17 rfl) 116 rfl (by decide) rfl ?_
      refine x_aload_n C rfl rfl (dkAt dk_L_runs_1 18 rfl) 117 rfl ?_
      refine x_iload C rfl (dkAt dk_L_runs_1 19 rfl) 119 rfl ?_
      obtain ⟨hc, hf⟩ := if_some hf
      refine h_cVl C hf (fun r hr => c_X11_usedOfRun hN hr) mw_X11_usedOfRun ln_RL_243 mi_X11_usedOfRun (hN.rc (ci := 11) sh0 rc11) (ro_c (k := 2) (by decide) (by decide) hc (by decide)) rfl rfl (Nat.le_of_ble_eq_true rfl) (dkAt dk_L_runs_1 20 rfl) 122 rfl (c26 + 2) (6 * (c26 + 2)) rfl (by show 6 * c26 + 12 = _; omega) (fun v37 M38 hf => ?_) (fun _ _ h => nomatch h)
      refine x_lload C rfl (dkAt dk_L_runs_1 21 rfl) 124 rfl ?_
      refine x_lcmp_ne C 140 (dkAt dk_L_runs_1 22 rfl) 128 rfl (dkAt dk_L_runs_1 23 rfl) (by decide) hf (fun hf => ?_) (fun hf => ?_)
      · refine x_iconst C (v := (0 : Int32)) (by decide) (dkAt dk_L_runs_1 30 rfl) 141 rfl ?_
        exact nomatch hf
      · refine x_aload_n C rfl rfl (dkAt dk_L_runs_1 24 rfl) 129 rfl ?_
        refine x_iload C rfl (dkAt dk_L_runs_1 25 rfl) 131 rfl ?_
        obtain ⟨hc, hf⟩ := if_some hf
        refine h_cVl C hf (fun r hr => c_X11_left hN hr) mw_X11_left ln_RL_247 mi_X11_left (hN.rc (ci := 11) sh0 rc11) (ro_c (k := 2) (by decide) (by decide) hc (by decide)) rfl rfl (Nat.le_of_ble_eq_true rfl) (dkAt dk_L_runs_1 26 rfl) 134 rfl ((c26 + 2) + 2) (6 * ((c26 + 2) + 2)) rfl (by show 6 * (c26 + 2) + 12 = _; omega) (fun v39 M40 hf => ?_) (fun _ _ h => nomatch h)
        refine x_lload C rfl (dkAt dk_L_runs_1 27 rfl) 136 rfl ?_
        refine x_lcmp_eq C 142 (dkAt dk_L_runs_1 28 rfl) 140 rfl (dkAt dk_L_runs_1 29 rfl) (by decide) hf (fun hf => ?_) (fun hf => ?_)
        · refine x_iload_n C rfl rfl (dkAt dk_L_runs_1 32 rfl) 143 rfl ?_
          refine x_lload C rfl (dkAt dk_L_runs_1 33 rfl) 145 rfl ?_
          refine x_lconst C (v := (0 : Int64)) (by decide) (dkAt dk_L_runs_1 34 rfl) 146 rfl ?_
          refine x_join hf (fun t41 => G Γ X M40 ((c26 + 2) + 2) (6 * ((c26 + 2) + 2)) [some (.ref (wad Γ 0)), some (.ref (wad Γ 109)), none, some (.int (0 : Int32)), some (.int (-1 : Int32)), some (.int x24)] [.int t41, .int x23] 158) (fun t41 hf => ?_) (fun j42 hj42 hf => ?_)
          · refine x_ior C (dkAt dk_L_runs_1 42 rfl) 159 rfl ?_
            refine x_istore_n C (L1 := [some (.ref (wad Γ 0)), some (.ref (wad Γ 109)), some (.int (x23 ||| t41)), some (.int (0 : Int32)), some (.int (-1 : Int32)), some (.int x24)]) (dkAt dk_L_runs_1 43 rfl) 160 rfl rfl (by decide) rfl ?_
            refine x_iinc C (v := (x24 + (1 : Int32))) (L1 := [some (.ref (wad Γ 0)), some (.ref (wad Γ 109)), some (.int (x23 ||| t41)), some (.int (0 : Int32)), some (.int (-1 : Int32)), some (.int (x24 + (1 : Int32)))]) (dkAt dk_L_runs_1 44 rfl) 163 rfl rfl rfl (by decide) rfl ?_
            refine x_goto C 73 (dkAt dk_L_runs_1 45 rfl) (by decide) ?_
            exact G.weak (L := [some (.ref (wad Γ 0)), some (.ref (wad Γ 109)), some (.int (x23 ||| t41)), some (.int (0 : Int32)), some (.int (-1 : Int32)), some (.int (x24 + (1 : Int32)))]) ⟨rfl, rfl, rfl, rfl, rfl, rfl, trivial⟩ (ih _ _ _ _ hf)
          · refine x_lcmp_ge C 157 (dkAt dk_L_runs_1 35 rfl) 150 rfl (dkAt dk_L_runs_1 36 rfl) (by decide) hf (fun hf => ?_) (fun hf => ?_)
            · refine x_iconst C (v := (0 : Int32)) (by decide) (dkAt dk_L_runs_1 41 rfl) 158 rfl ?_
              exact G.weak (L := [some (.ref (wad Γ 0)), some (.ref (wad Γ 109)), none, some (.int (0 : Int32)), some (.int (-1 : Int32)), some (.int x24)]) ⟨rfl, rfl, rfl, rfl, rfl, trivial⟩ (hj42 _ hf)
            · refine x_iconst C (v := (1 : Int32)) (by decide) (dkAt dk_L_runs_1 37 rfl) 151 rfl ?_
              refine x_iload C rfl (dkAt dk_L_runs_1 38 rfl) 153 rfl ?_
              refine x_ishl C (dkAt dk_L_runs_1 39 rfl) 154 rfl ?_
              refine x_goto C 158 (dkAt dk_L_runs_1 40 rfl) (by decide) ?_
              exact G.weak (L := [some (.ref (wad Γ 0)), some (.ref (wad Γ 109)), none, some (.int (0 : Int32)), some (.int (-1 : Int32)), some (.int x24)]) ⟨rfl, rfl, rfl, rfl, rfl, trivial⟩ (hj42 _ hf)
        · refine x_iconst C (v := (0 : Int32)) (by decide) (dkAt dk_L_runs_1 30 rfl) 141 rfl ?_
          exact nomatch hf
set_option maxRecDepth 100000 in
theorem l_L_runs_L195 {Γ : WC} {X : MX} {sh : Nat → Option SE} (hN : HN Γ) (hC : NC Γ) (hF : HF Γ) (hL : HLa Γ sh) (C : CX Γ X cL_runs 11 RL (some .boolean) (rmL 60 700 (6 * 700))) {rM : Int32 × Mem} (E : EndN Γ X (some (.int rM.1)) rM.2 700 (6 * 700)) {Z : Nat} {y43 : Int32} {x46 : Int32} {x47 : Int32} {x48 : Int32} {v52 : Int32} {k : Int32 → Int64 → Mem → Nat → Option (Int32 × Mem)} (hk : ∀ (a7 : Int32) (a8 : Int64) (Mx : Mem) (cx : Nat), k a7 a8 Mx cx = some rM → G Γ X Mx cx (6 * cx) [some (.ref (wad Γ 0)), some (.ref (wad Γ 109)), some (.int y43), some (.int x46), some (.int x47), some (.int x48), some (.int v52), some (.int a7), some (.long a8)] [] 254) : ∀ (n : Nat) (x54 : Int32) (x55 : Int64) (x56 : Int32) (M57 : Mem) (c58 : Nat), f_L_runs_L195 sh Z y43 x46 x47 x48 v52 k n x54 x55 x56 M57 c58 = some rM → G Γ X M57 c58 (6 * c58) [some (.ref (wad Γ 0)), some (.ref (wad Γ 109)), some (.int y43), some (.int x46), some (.int x47), some (.int x48), some (.int v52), some (.int x54), some (.long x55), none, some (.int x56)] [] 195 := by
  intro n
  induction n with
  | zero =>
    intro x54 x55 x56 M57 c58 hf
    have hf0 : (none : Option _) = some rM := hf
    cases hf0
  | succ n ih =>
    intro x54 x55 x56 M57 c58 hf
    rw [f_L_runs_L195] at hf
    refine x_iload C rfl (dkAt dk_L_runs_2 14 rfl) 197 rfl ?_
    refine x_aload_n C rfl rfl (dkAt dk_L_runs_2 15 rfl) 198 rfl ?_
    refine x_getIn C nlk_RL_146 (hL.2.1 109 (18, 17) rfl) (dkAt dk_L_runs_2 16 rfl) 201 rfl hf (fun v59 hf => ?_)
    refine x_icmp_gt C 254 (dkAt dk_L_runs_2 17 rfl) 204 rfl (by decide) hf (fun hf => ?_) (fun hf => ?_)
    · exact G.weak (L := [some (.ref (wad Γ 0)), some (.ref (wad Γ 109)), some (.int y43), some (.int x46), some (.int x47), some (.int x48), some (.int v52), some (.int x54), some (.long x55)]) ⟨rfl, rfl, rfl, rfl, rfl, rfl, rfl, rfl, rfl, trivial⟩ (hk _ _ _ _ hf)
    · refine x_ldc2 C (v := (1000 : Int64)) cl_RL_219 (dkAt dk_L_runs_2 18 rfl) 207 rfl ?_
      refine x_lload C rfl (dkAt dk_L_runs_2 19 rfl) 209 rfl ?_
      refine x_lmul C (dkAt dk_L_runs_2 20 rfl) 210 rfl ?_
      refine x_aload_n C rfl rfl (dkAt dk_L_runs_2 21 rfl) 211 rfl ?_
      refine x_iload C rfl (dkAt dk_L_runs_2 22 rfl) 213 rfl ?_
      refine x_iload C rfl (dkAt dk_L_runs_2 23 rfl) 215 rfl ?_
      obtain ⟨hc, hf⟩ := if_some hf
      obtain ⟨v60, M61, h62, hf⟩ := cl_inv hf
      refine x_cVl C (c_X12_flow hL hF h62) mw_X12_flow ln_RL_218 mi_X12_flow (show RC _ 109 RX12 from ⟨12, 17, _, (hL.2.1 109 (18, 17) rfl), rc12, rfl⟩) (ro_c (k := 6) (by decide) (by decide) hc (by decide)) rfl rfl (Nat.le_of_ble_eq_true rfl) (dkAt dk_L_runs_2 24 rfl) 218 rfl (c58 + 6) (6 * (c58 + 6)) rfl (Nat.mul_add _ _ _).symm ?_
      change G Γ X M61 (c58 + 6) (6 * (c58 + 6)) [some (.ref (wad Γ 0)), some (.ref (wad Γ 109)), some (.int y43), some (.int x46), some (.int x47), some (.int x48), some (.int v52), some (.int x54), some (.long x55), none, some (.int x56)] [.long v60, .long ((1000 : Int64) * x55)] 218
      refine x_ladd C (dkAt dk_L_runs_2 25 rfl) 219 rfl ?_
      refine x_lstore C (L1 := [some (.ref (wad Γ 0)), some (.ref (wad Γ 109)), some (.int y43), some (.int x46), some (.int x47), some (.int x48), some (.int v52), some (.int x54), some (.long (((1000 : Int64) * x55) + v60)), none, some (.int x56)]) (dkAt dk_L_runs_2 26 rfl) 221 rfl (by decide) rfl ?_
      refine x_iload C rfl (dkAt dk_L_runs_2 27 rfl) 223 rfl ?_
      refine x_join hf (fun t63 => G Γ X t63.2.1 t63.2.2 (6 * t63.2.2) [some (.ref (wad Γ 0)), some (.ref (wad Γ 109)), some (.int y43), some (.int x46), some (.int x47), some (.int x48), some (.int v52), none, some (.long (((1000 : Int64) * x55) + v60)), none, some (.int x56)] [.int t63.1] 246) (fun t63 hf => ?_) (fun j64 hj64 hf => ?_)
      · refine x_istore C (L1 := [some (.ref (wad Γ 0)), some (.ref (wad Γ 109)), some (.int y43), some (.int x46), some (.int x47), some (.int x48), some (.int v52), some (.int t63.1), some (.long (((1000 : Int64) * x55) + v60)), none, some (.int x56)]) (dkAt dk_L_runs_2 39 rfl) 248 rfl (by decide) rfl ?_
        refine x_iinc C (v := (x56 + (1 : Int32))) (L1 := [some (.ref (wad Γ 0)), some (.ref (wad Γ 109)), some (.int y43), some (.int x46), some (.int x47), some (.int x48), some (.int v52), some (.int t63.1), some (.long (((1000 : Int64) * x55) + v60)), none, some (.int (x56 + (1 : Int32)))]) (dkAt dk_L_runs_2 40 rfl) 251 rfl rfl rfl (by decide) rfl ?_
        refine x_goto C 195 (dkAt dk_L_runs_2 41 rfl) (by decide) ?_
        exact G.weak (L := [some (.ref (wad Γ 0)), some (.ref (wad Γ 109)), some (.int y43), some (.int x46), some (.int x47), some (.int x48), some (.int v52), some (.int t63.1), some (.long (((1000 : Int64) * x55) + v60)), none, some (.int (x56 + (1 : Int32)))]) ⟨rfl, rfl, rfl, rfl, rfl, rfl, rfl, rfl, rfl, rfl, trivial⟩ (ih _ _ _ _ _ hf)
      · refine x_join hf (fun t65 => G Γ X t65.1 t65.2 (6 * t65.2) [some (.ref (wad Γ 0)), some (.ref (wad Γ 109)), some (.int y43), some (.int x46), some (.int x47), some (.int x48), some (.int v52), some (.int x54), some (.long (((1000 : Int64) * x55) + v60)), none, some (.int x56)] [] 244) (fun t65 hf => ?_) (fun j66 hj66 hf => ?_)
        · refine x_iload C rfl (dkAt dk_L_runs_2 38 rfl) 246 rfl ?_
          exact G.weak (L := [some (.ref (wad Γ 0)), some (.ref (wad Γ 109)), some (.int y43), some (.int x46), some (.int x47), some (.int x48), some (.int v52), none, some (.long (((1000 : Int64) * x55) + v60)), none, some (.int x56)]) ⟨rfl, rfl, rfl, rfl, rfl, rfl, rfl, rfl, rfl, trivial⟩ (hj64 _ hf)
        · refine x_if_ge C 244 (dkAt dk_L_runs_2 28 rfl) 226 rfl (by decide) hf (fun hf => ?_) (fun hf => ?_)
          · exact G.weak (L := [some (.ref (wad Γ 0)), some (.ref (wad Γ 109)), some (.int y43), some (.int x46), some (.int x47), some (.int x48), some (.int v52), some (.int x54), some (.long (((1000 : Int64) * x55) + v60)), none, some (.int x56)]) ⟨rfl, rfl, rfl, rfl, rfl, rfl, rfl, rfl, rfl, rfl, trivial⟩ (hj66 _ hf)
          · refine x_aload_n C rfl rfl (dkAt dk_L_runs_2 29 rfl) 227 rfl ?_
            refine x_iload C rfl (dkAt dk_L_runs_2 30 rfl) 229 rfl ?_
            refine x_iload C rfl (dkAt dk_L_runs_2 31 rfl) 231 rfl ?_
            obtain ⟨hc, hf⟩ := if_some hf
            obtain ⟨v67, M68, h69, hf⟩ := cl_inv hf
            refine x_cVl C (c_X12_flow hL hF h69) mw_X12_flow ln_RL_218 mi_X12_flow (show RC _ 109 RX12 from ⟨12, 17, _, (hL.2.1 109 (18, 17) rfl), rc12, rfl⟩) (ro_c (k := 6) (by decide) (by decide) hc (by decide)) rfl rfl (Nat.le_of_ble_eq_true rfl) (dkAt dk_L_runs_2 32 rfl) 234 rfl ((c58 + 6) + 6) (6 * ((c58 + 6) + 6)) rfl (Nat.mul_add _ _ _).symm ?_
            change G Γ X M68 ((c58 + 6) + 6) (6 * ((c58 + 6) + 6)) [some (.ref (wad Γ 0)), some (.ref (wad Γ 109)), some (.int y43), some (.int x46), some (.int x47), some (.int x48), some (.int v52), some (.int x54), some (.long (((1000 : Int64) * x55) + v60)), none, some (.int x56)] [.long v67] 234
            refine x_lconst C (v := (0 : Int64)) (by decide) (dkAt dk_L_runs_2 33 rfl) 235 rfl ?_
            refine x_lcmp_le C 244 (dkAt dk_L_runs_2 34 rfl) 239 rfl (dkAt dk_L_runs_2 35 rfl) (by decide) hf (fun hf => ?_) (fun hf => ?_)
            · exact G.weak (L := [some (.ref (wad Γ 0)), some (.ref (wad Γ 109)), some (.int y43), some (.int x46), some (.int x47), some (.int x48), some (.int v52), some (.int x54), some (.long (((1000 : Int64) * x55) + v60)), none, some (.int x56)]) ⟨rfl, rfl, rfl, rfl, rfl, rfl, rfl, rfl, rfl, rfl, trivial⟩ (hj66 _ hf)
            · refine x_iload C rfl (dkAt dk_L_runs_2 36 rfl) 241 rfl ?_
              refine x_goto C 246 (dkAt dk_L_runs_2 37 rfl) (by decide) ?_
              exact G.weak (L := [some (.ref (wad Γ 0)), some (.ref (wad Γ 109)), some (.int y43), some (.int x46), some (.int x47), some (.int x48), some (.int v52), none, some (.long (((1000 : Int64) * x55) + v60)), none, some (.int x56)]) ⟨rfl, rfl, rfl, rfl, rfl, rfl, rfl, rfl, rfl, trivial⟩ (hj64 _ hf)
set_option maxRecDepth 100000 in
theorem l_L_runs_L169 {Γ : WC} {X : MX} {sh : Nat → Option SE} (hN : HN Γ) (hC : NC Γ) (hF : HF Γ) (hL : HLa Γ sh) (C : CX Γ X cL_runs 11 RL (some .boolean) (rmL 60 700 (6 * 700))) {rM : Int32 × Mem} (E : EndN Γ X (some (.int rM.1)) rM.2 700 (6 * 700)) {Z : Nat} {y43 : Int32} {k : Int32 → Mem → Nat → Option (Int32 × Mem)} (hk : ∀ (a3 : Int32) (Mx : Mem) (cx : Nat), k a3 Mx cx = some rM → G Γ X Mx cx (6 * cx) [some (.ref (wad Γ 0)), some (.ref (wad Γ 109)), some (.int y43), some (.int a3)] [] 358) : ∀ (n : Nat) (x46 : Int32) (x47 : Int32) (x48 : Int32) (M49 : Mem) (c50 : Nat), f_L_runs_L169 sh Z y43 k n x46 x47 x48 M49 c50 = some rM → G Γ X M49 c50 (6 * c50) [some (.ref (wad Γ 0)), some (.ref (wad Γ 109)), some (.int y43), some (.int x46), some (.int x47), some (.int x48)] [] 169 := by
  intro n
  induction n with
  | zero =>
    intro x46 x47 x48 M49 c50 hf
    have hf0 : (none : Option _) = some rM := hf
    cases hf0
  | succ n ih =>
    intro x46 x47 x48 M49 c50 hf
    rw [f_L_runs_L169] at hf
    refine x_iload C rfl (dkAt dk_L_runs_2 0 rfl) 171 rfl ?_
    refine x_aload_n C rfl rfl (dkAt dk_L_runs_2 1 rfl) 172 rfl ?_
    refine x_getIn C nlk_RL_133 (hL.2.1 109 (18, 17) rfl) (dkAt dk_L_runs_2 2 rfl) 175 rfl hf (fun v51 hf => ?_)
    refine x_icmp_ge C 358 (dkAt dk_L_runs_2 3 rfl) 178 rfl (by decide) hf (fun hf => ?_) (fun hf => ?_)
    · exact G.weak (L := [some (.ref (wad Γ 0)), some (.ref (wad Γ 109)), some (.int y43), some (.int x46)]) ⟨rfl, rfl, rfl, rfl, trivial⟩ (hk _ _ _ hf)
    · refine x_aload_n C rfl rfl (dkAt dk_L_runs_2 4 rfl) 179 rfl ?_
      refine x_iload C rfl (dkAt dk_L_runs_2 5 rfl) 181 rfl ?_
      obtain ⟨hc, hf⟩ := if_some hf
      refine h_cVi C hf (fun r hr => c_X11_busiest hN hr) mw_X11_busiest ln_RL_62 mi_X11_busiest (hN.rc (ci := 11) sh0 rc11) (ro_c (k := 2) (by decide) (by decide) hc (by decide)) rfl rfl (Nat.le_of_ble_eq_true rfl) (dkAt dk_L_runs_2 6 rfl) 184 rfl (c50 + 2) (6 * (c50 + 2)) rfl (by show 6 * c50 + 12 = _; omega) (fun v52 M53 hf => ?_) (fun _ _ h => nomatch h)
      refine x_istore C (L1 := [some (.ref (wad Γ 0)), some (.ref (wad Γ 109)), some (.int y43), some (.int x46), some (.int x47), some (.int x48), some (.int v52)]) (dkAt dk_L_runs_2 7 rfl) 186 rfl (by decide) rfl ?_
      refine x_iconst C (v := (-1 : Int32)) (by decide) (dkAt dk_L_runs_2 8 rfl) 187 rfl ?_
      refine x_istore C (L1 := [some (.ref (wad Γ 0)), some (.ref (wad Γ 109)), some (.int y43), some (.int x46), some (.int x47), some (.int x48), some (.int v52), some (.int (-1 : Int32))]) (dkAt dk_L_runs_2 9 rfl) 189 rfl (by decide) rfl ?_
      refine x_lconst C (v := (0 : Int64)) (by decide) (dkAt dk_L_runs_2 10 rfl) 190 rfl ?_
      refine x_lstore C (L1 := [some (.ref (wad Γ 0)), some (.ref (wad Γ 109)), some (.int y43), some (.int x46), some (.int x47), some (.int x48), some (.int v52), some (.int (-1 : Int32)), some (.long (0 : Int64))]) (dkAt dk_L_runs_2 11 rfl) 192 rfl (by decide) rfl ?_
      refine x_iconst C (v := (0 : Int32)) (by decide) (dkAt dk_L_runs_2 12 rfl) 193 rfl ?_
      refine x_istore C (L1 := [some (.ref (wad Γ 0)), some (.ref (wad Γ 109)), some (.int y43), some (.int x46), some (.int x47), some (.int x48), some (.int v52), some (.int (-1 : Int32)), some (.long (0 : Int64)), none, some (.int (0 : Int32))]) (dkAt dk_L_runs_2 13 rfl) 195 rfl (by decide) rfl ?_
      refine G.weak (L := [some (.ref (wad Γ 0)), some (.ref (wad Γ 109)), some (.int y43), some (.int x46), some (.int x47), some (.int x48), some (.int v52), some (.int (-1 : Int32)), some (.long (0 : Int64)), none, some (.int (0 : Int32))]) ⟨rfl, rfl, rfl, rfl, rfl, rfl, rfl, rfl, rfl, rfl, trivial⟩ ?_
      refine l_L_runs_L195 hN hC hF hL C E ?_ Z _ _ _ _ _ hf
      intro y70 y71 M72 c73 hf
      refine x_aload_n C rfl rfl (dkAt dk_L_runs_2 42 rfl) 255 rfl ?_
      refine x_iload C rfl (dkAt dk_L_runs_2 43 rfl) 257 rfl ?_
      obtain ⟨hc, hf⟩ := if_some hf
      refine h_cVl C hf (fun r hr => c_X11_visits hN hr) mw_X11_visits ln_RL_250 mi_X11_visits (hN.rc (ci := 11) sh0 rc11) (ro_c (k := 2) (by decide) (by decide) hc (by decide)) rfl rfl (Nat.le_of_ble_eq_true rfl) (dkAt dk_L_runs_2 44 rfl) 260 rfl (c73 + 2) (6 * (c73 + 2)) rfl (by show 6 * c73 + 12 = _; omega) (fun v74 M75 hf => ?_) (fun _ _ h => nomatch h)
      refine x_lload C rfl (dkAt dk_L_runs_2 45 rfl) 262 rfl ?_
      refine x_lcmp_ne C 301 (dkAt dk_L_runs_2 46 rfl) 266 rfl (dkAt dk_L_runs_2 47 rfl) (by decide) hf (fun hf => ?_) (fun hf => ?_)
      · refine x_iconst C (v := (0 : Int32)) (by decide) (dkAt dk_L_runs_3 17 rfl) 302 rfl ?_
        exact nomatch hf
      · refine x_aload_n C rfl rfl (dkAt dk_L_runs_3 0 rfl) 267 rfl ?_
        refine x_iload C rfl (dkAt dk_L_runs_3 1 rfl) 269 rfl ?_
        obtain ⟨hc, hf⟩ := if_some hf
        refine h_cVi C hf (fun r hr => c_X11_firstTime hN hr) mw_X11_firstTime ln_RL_253 mi_X11_firstTime (hN.rc (ci := 11) sh0 rc11) (ro_c (k := 2) (by decide) (by decide) hc (by decide)) rfl rfl (Nat.le_of_ble_eq_true rfl) (dkAt dk_L_runs_3 2 rfl) 272 rfl ((c73 + 2) + 2) (6 * ((c73 + 2) + 2)) rfl (by show 6 * (c73 + 2) + 12 = _; omega) (fun v76 M77 hf => ?_) (fun _ _ h => nomatch h)
        refine x_iload C rfl (dkAt dk_L_runs_3 3 rfl) 274 rfl ?_
        refine x_icmp_ne C 301 (dkAt dk_L_runs_3 4 rfl) 277 rfl (by decide) hf (fun hf => ?_) (fun hf => ?_)
        · refine x_iconst C (v := (0 : Int32)) (by decide) (dkAt dk_L_runs_3 17 rfl) 302 rfl ?_
          exact nomatch hf
        · refine x_aload_n C rfl rfl (dkAt dk_L_runs_3 5 rfl) 278 rfl ?_
          refine x_iload C rfl (dkAt dk_L_runs_3 6 rfl) 280 rfl ?_
          obtain ⟨hc, hf⟩ := if_some hf
          refine h_cVl C hf (fun r hr => c_X11_hit hN hr) mw_X11_hit ln_RL_256 mi_X11_hit (hN.rc (ci := 11) sh0 rc11) (ro_c (k := 2) (by decide) (by decide) hc (by decide)) rfl rfl (Nat.le_of_ble_eq_true rfl) (dkAt dk_L_runs_3 7 rfl) 283 rfl (((c73 + 2) + 2) + 2) (6 * (((c73 + 2) + 2) + 2)) rfl (by show 6 * ((c73 + 2) + 2) + 12 = _; omega) (fun v78 M79 hf => ?_) (fun _ _ h => nomatch h)
          refine x_aload_n C rfl rfl (dkAt dk_L_runs_3 8 rfl) 284 rfl ?_
          refine x_aload_n C rfl rfl (dkAt dk_L_runs_3 9 rfl) 285 rfl ?_
          refine x_getIn C nlk_RL_153 (hL.2.1 109 (18, 17) rfl) (dkAt dk_L_runs_3 10 rfl) 288 rfl hf (fun v80 hf => ?_)
          refine x_iload C rfl (dkAt dk_L_runs_3 11 rfl) 290 rfl ?_
          refine x_aload_n C rfl rfl (dkAt dk_L_runs_3 12 rfl) 291 rfl ?_
          refine x_getIn C nlk_RL_146 (hL.2.1 109 (18, 17) rfl) (dkAt dk_L_runs_3 13 rfl) 294 rfl hf (fun v81 hf => ?_)
          obtain ⟨hc, hf⟩ := if_some hf
          obtain ⟨v82, M83, h84, hf⟩ := cl_inv hf
          refine x_cSl C (c_L_hit hL h84) mw_L_hit ln_RL_224 ms_L_hit (ro_c (k := 0) (by decide) (by decide) hc (by decide)) rfl rfl (Nat.le_of_ble_eq_true rfl) (dkAt dk_L_runs_3 14 rfl) 297 rfl _ _ rfl rfl ?_
          change G Γ X M83 (((c73 + 2) + 2) + 2) (6 * (((c73 + 2) + 2) + 2)) [some (.ref (wad Γ 0)), some (.ref (wad Γ 109)), some (.int y43), some (.int x46), some (.int x47), some (.int x48), some (.int v52), some (.int y70), some (.long y71)] [.long v82, .long v78] 297
          refine x_lcmp_eq C 303 (dkAt dk_L_runs_3 15 rfl) 301 rfl (dkAt dk_L_runs_3 16 rfl) (by decide) hf (fun hf => ?_) (fun hf => ?_)
          · refine x_iload C rfl (dkAt dk_L_runs_3 19 rfl) 305 rfl ?_
            refine x_join hf (fun t85 => G Γ X t85.1 t85.2 (6 * t85.2) [some (.ref (wad Γ 0)), some (.ref (wad Γ 109)), some (.int y43), some (.int x46), none, some (.int x48), some (.int v52)] [] 341) (fun t85 hf => ?_) (fun j86 hj86 hf => ?_)
            · refine x_iload C rfl (dkAt dk_L_runs_3 38 rfl) 343 rfl ?_
              refine x_istore C (L1 := [some (.ref (wad Γ 0)), some (.ref (wad Γ 109)), some (.int y43), some (.int x46), some (.int v52), some (.int x48), some (.int v52)]) (dkAt dk_L_runs_3 39 rfl) 345 rfl (by decide) rfl ?_
              refine x_iload_n C rfl rfl (dkAt dk_L_runs_3 40 rfl) 346 rfl ?_
              refine x_iconst C (v := (1 : Int32)) (by decide) (dkAt dk_L_runs_3 41 rfl) 347 rfl ?_
              refine x_iload C rfl (dkAt dk_L_runs_3 42 rfl) 349 rfl ?_
              refine x_ishl C (dkAt dk_L_runs_3 43 rfl) 350 rfl ?_
              refine x_ior C (dkAt dk_L_runs_3 44 rfl) 351 rfl ?_
              refine x_istore_n C (L1 := [some (.ref (wad Γ 0)), some (.ref (wad Γ 109)), some (.int y43), some (.int (x46 ||| ((1 : Int32) <<< (v52 &&& 31)))), some (.int v52), some (.int x48), some (.int v52)]) (dkAt dk_L_runs_3 45 rfl) 352 rfl rfl (by decide) rfl ?_
              refine x_iinc C (v := (x48 + (1 : Int32))) (L1 := [some (.ref (wad Γ 0)), some (.ref (wad Γ 109)), some (.int y43), some (.int (x46 ||| ((1 : Int32) <<< (v52 &&& 31)))), some (.int v52), some (.int (x48 + (1 : Int32))), some (.int v52)]) (dkAt dk_L_runs_3 46 rfl) 355 rfl rfl rfl (by decide) rfl ?_
              refine x_goto C 169 (dkAt dk_L_runs_3 47 rfl) (by decide) ?_
              exact G.weak (L := [some (.ref (wad Γ 0)), some (.ref (wad Γ 109)), some (.int y43), some (.int (x46 ||| ((1 : Int32) <<< (v52 &&& 31)))), some (.int v52), some (.int (x48 + (1 : Int32)))]) ⟨rfl, rfl, rfl, rfl, rfl, rfl, trivial⟩ (ih _ _ _ _ _ hf)
            · refine x_if_lt C 341 (dkAt dk_L_runs_3 20 rfl) 308 rfl (by decide) hf (fun hf => ?_) (fun hf => ?_)
              · exact G.weak (L := [some (.ref (wad Γ 0)), some (.ref (wad Γ 109)), some (.int y43), some (.int x46), none, some (.int x48), some (.int v52)]) ⟨rfl, rfl, rfl, rfl, rfl, rfl, trivial⟩ (hj86 _ hf)
              · refine x_aload_n C rfl rfl (dkAt dk_L_runs_3 21 rfl) 309 rfl ?_
                refine x_iload C rfl (dkAt dk_L_runs_3 22 rfl) 311 rfl ?_
                obtain ⟨hc, hf⟩ := if_some hf
                refine h_cVl C hf (fun r hr => c_X11_visits hN hr) mw_X11_visits ln_RL_250 mi_X11_visits (hN.rc (ci := 11) sh0 rc11) (ro_c (k := 2) (by decide) (by decide) hc (by decide)) rfl rfl (Nat.le_of_ble_eq_true rfl) (dkAt dk_L_runs_3 23 rfl) 314 rfl ((((c73 + 2) + 2) + 2) + 2) (6 * ((((c73 + 2) + 2) + 2) + 2)) rfl (by show 6 * (((c73 + 2) + 2) + 2) + 12 = _; omega) (fun v87 M88 hf => ?_) (fun _ _ h => nomatch h)
                refine x_lload C rfl (dkAt dk_L_runs_3 24 rfl) 316 rfl ?_
                refine x_lcmp_lt C 339 (dkAt dk_L_runs_3 25 rfl) 320 rfl (dkAt dk_L_runs_3 26 rfl) (by decide) hf (fun hf => ?_) (fun hf => ?_)
                · refine x_iconst C (v := (0 : Int32)) (by decide) (dkAt dk_L_runs_3 36 rfl) 340 rfl ?_
                  exact nomatch hf
                · refine x_aload_n C rfl rfl (dkAt dk_L_runs_3 27 rfl) 321 rfl ?_
                  refine x_iload C rfl (dkAt dk_L_runs_3 28 rfl) 323 rfl ?_
                  obtain ⟨hc, hf⟩ := if_some hf
                  refine h_cVl C hf (fun r hr => c_X11_visits hN hr) mw_X11_visits ln_RL_250 mi_X11_visits (hN.rc (ci := 11) sh0 rc11) (ro_c (k := 2) (by decide) (by decide) hc (by decide)) rfl rfl (Nat.le_of_ble_eq_true rfl) (dkAt dk_L_runs_3 29 rfl) 326 rfl (((((c73 + 2) + 2) + 2) + 2) + 2) (6 * (((((c73 + 2) + 2) + 2) + 2) + 2)) rfl (by show 6 * ((((c73 + 2) + 2) + 2) + 2) + 12 = _; omega) (fun v89 M90 hf => ?_) (fun _ _ h => nomatch h)
                  refine x_lload C rfl (dkAt dk_L_runs_3 30 rfl) 328 rfl ?_
                  refine x_lcmp_ne C 341 (dkAt dk_L_runs_3 31 rfl) 332 rfl (dkAt dk_L_runs_3 32 rfl) (by decide) hf (fun hf => ?_) (fun hf => ?_)
                  · exact G.weak (L := [some (.ref (wad Γ 0)), some (.ref (wad Γ 109)), some (.int y43), some (.int x46), none, some (.int x48), some (.int v52)]) ⟨rfl, rfl, rfl, rfl, rfl, rfl, trivial⟩ (hj86 _ hf)
                  · refine x_iload C rfl (dkAt dk_L_runs_3 33 rfl) 334 rfl ?_
                    refine x_iload C rfl (dkAt dk_L_runs_3 34 rfl) 336 rfl ?_
                    refine x_icmp_le C 341 (dkAt dk_L_runs_3 35 rfl) 339 rfl (by decide) hf (fun hf => ?_) (fun hf => ?_)
                    · exact G.weak (L := [some (.ref (wad Γ 0)), some (.ref (wad Γ 109)), some (.int y43), some (.int x46), none, some (.int x48), some (.int v52)]) ⟨rfl, rfl, rfl, rfl, rfl, rfl, trivial⟩ (hj86 _ hf)
                    · refine x_iconst C (v := (0 : Int32)) (by decide) (dkAt dk_L_runs_3 36 rfl) 340 rfl ?_
                      exact nomatch hf
          · refine x_iconst C (v := (0 : Int32)) (by decide) (dkAt dk_L_runs_3 17 rfl) 302 rfl ?_
            exact nomatch hf
set_option maxRecDepth 100000 in
theorem c_L_runs {Γ : WC} {sh : Nat → Option SE} (hN : HN Γ) (hC : NC Γ) (hF : HF Γ) (hL : HLa Γ sh) {Z : Nat} {M : Mem}  {rM : Int32 × Mem} (hf : f_L_runs sh Z M  = some rM) : Ct Γ yL_runs cL_runs 11 (some .boolean) (rmL 60 700 (6 * 700)) [.ref (wad Γ 0), .ref (wad Γ 109)] M (some (.int rM.1)) rM.2 := by
  refine mkN hL.1.1 (own := RL) rfl (by decide) (Nat.le_of_ble_eq_true rfl) (fun X C E => ?_)
  change G Γ X M (0) (6 * (0)) [some (.ref (wad Γ 0)), some (.ref (wad Γ 109))] [] 0
  unfold f_L_runs at hf
  refine x_iconst C (v := (0 : Int32)) (by decide) (dkAt dk_L_runs_0 0 rfl) 1 rfl ?_
  refine x_istore_n C (L1 := [some (.ref (wad Γ 0)), some (.ref (wad Γ 109)), some (.int (0 : Int32))]) (dkAt dk_L_runs_0 1 rfl) 2 rfl rfl (by decide) rfl ?_
  refine x_iconst C (v := (0 : Int32)) (by decide) (dkAt dk_L_runs_0 2 rfl) 3 rfl ?_
  refine x_istore_n C (L1 := [some (.ref (wad Γ 0)), some (.ref (wad Γ 109)), some (.int (0 : Int32)), some (.int (0 : Int32))]) (dkAt dk_L_runs_0 3 rfl) 4 rfl rfl (by decide) rfl ?_
  refine x_iconst C (v := (-1 : Int32)) (by decide) (dkAt dk_L_runs_0 4 rfl) 5 rfl ?_
  refine x_istore C (L1 := [some (.ref (wad Γ 0)), some (.ref (wad Γ 109)), some (.int (0 : Int32)), some (.int (0 : Int32)), some (.int (-1 : Int32))]) (dkAt dk_L_runs_0 5 rfl) 7 rfl (by decide) rfl ?_
  refine x_aload_n C rfl rfl (dkAt dk_L_runs_0 6 rfl) 8 rfl ?_
  obtain ⟨hc, hf⟩ := if_some hf
  refine h_cVl C hf (fun r hr => c_X11_unit hN hr) mw_X11_unit ln_RL_228 mi_X11_unit (hN.rc (ci := 11) sh0 rc11) (ro_c (k := 1) (by decide) (by decide) hc (by decide)) rfl rfl (Nat.le_of_ble_eq_true rfl) (dkAt dk_L_runs_0 7 rfl) 11 rfl (0 + 1) (6 * (0 + 1)) rfl (by show 6 * (0) + 6 = _; omega) (fun v1 M2 hf => ?_) (fun _ _ h => nomatch h)
  refine x_aload_n C rfl rfl (dkAt dk_L_runs_0 8 rfl) 12 rfl ?_
  obtain ⟨hc, hf⟩ := if_some hf
  obtain ⟨v3, M4, h5, hf⟩ := cl_inv hf
  refine x_cVl C (c_X12_unit hL h5) mw_X12_unit ln_RL_232 mi_X12_unit (show RC _ 109 RX12 from ⟨12, 17, _, (hL.2.1 109 (18, 17) rfl), rc12, rfl⟩) (ro_c (k := 0) (by decide) (by decide) hc (by decide)) rfl rfl (Nat.le_of_ble_eq_true rfl) (dkAt dk_L_runs_0 9 rfl) 15 rfl _ _ rfl rfl ?_
  change G Γ X M4 (0 + 1) (6 * (0 + 1)) [some (.ref (wad Γ 0)), some (.ref (wad Γ 109)), some (.int (0 : Int32)), some (.int (0 : Int32)), some (.int (-1 : Int32))] [.long v3, .long v1] 15
  refine x_lcmp_ne C 68 (dkAt dk_L_runs_0 10 rfl) 19 rfl (dkAt dk_L_runs_0 11 rfl) (by decide) hf (fun hf => ?_) (fun hf => ?_)
  · refine x_iconst C (v := (0 : Int32)) (by decide) (dkAt dk_L_runs_0 39 rfl) 69 rfl ?_
    exact nomatch hf
  · refine x_aload_n C rfl rfl (dkAt dk_L_runs_0 12 rfl) 20 rfl ?_
    obtain ⟨hc, hf⟩ := if_some hf
    refine h_cVl C hf (fun r hr => c_X11_gainOfRun hN hr) mw_X11_gainOfRun ln_RL_233 mi_X11_gainOfRun (hN.rc (ci := 11) sh0 rc11) (ro_c (k := 1) (by decide) (by decide) hc (by decide)) rfl rfl (Nat.le_of_ble_eq_true rfl) (dkAt dk_L_runs_0 13 rfl) 23 rfl ((0 + 1) + 1) (6 * ((0 + 1) + 1)) rfl (by show 6 * (0 + 1) + 6 = _; omega) (fun v6 M7 hf => ?_) (fun _ _ h => nomatch h)
    refine x_aload_n C rfl rfl (dkAt dk_L_runs_0 14 rfl) 24 rfl ?_
    refine x_aload_n C rfl rfl (dkAt dk_L_runs_0 15 rfl) 25 rfl ?_
    refine x_getIn C nlk_RL_153 (hL.2.1 109 (18, 17) rfl) (dkAt dk_L_runs_0 16 rfl) 28 rfl hf (fun v8 hf => ?_)
    refine x_aload_n C rfl rfl (dkAt dk_L_runs_0 17 rfl) 29 rfl ?_
    refine x_getIn C nlk_RL_146 (hL.2.1 109 (18, 17) rfl) (dkAt dk_L_runs_0 18 rfl) 32 rfl hf (fun v9 hf => ?_)
    refine x_iconst C (v := (-1 : Int32)) (by decide) (dkAt dk_L_runs_0 19 rfl) 33 rfl ?_
    obtain ⟨hc, hf⟩ := if_some hf
    obtain ⟨v10, M11, h12, hf⟩ := cl_inv hf
    refine x_cVl C (c_X12_mean hL h12) mw_X12_mean ln_RL_236 mi_X12_mean (show RC _ 109 RX12 from ⟨12, 17, _, (hL.2.1 109 (18, 17) rfl), rc12, rfl⟩) (ro_c (k := 0) (by decide) (by decide) hc (by decide)) rfl rfl (Nat.le_of_ble_eq_true rfl) (dkAt dk_L_runs_0 20 rfl) 36 rfl _ _ rfl rfl ?_
    change G Γ X M11 ((0 + 1) + 1) (6 * ((0 + 1) + 1)) [some (.ref (wad Γ 0)), some (.ref (wad Γ 109)), some (.int (0 : Int32)), some (.int (0 : Int32)), some (.int (-1 : Int32))] [.long v10, .long v6] 36
    refine x_lcmp_ne C 68 (dkAt dk_L_runs_0 21 rfl) 40 rfl (dkAt dk_L_runs_0 22 rfl) (by decide) hf (fun hf => ?_) (fun hf => ?_)
    · refine x_iconst C (v := (0 : Int32)) (by decide) (dkAt dk_L_runs_0 39 rfl) 69 rfl ?_
      exact nomatch hf
    · refine x_aload_n C rfl rfl (dkAt dk_L_runs_0 23 rfl) 41 rfl ?_
      obtain ⟨hc, hf⟩ := if_some hf
      refine h_cVf C hf (fun r hr => c_X11_meanGain hN hr) mw_X11_meanGain ln_RL_239 mi_X11_meanGain (hN.rc (ci := 11) sh0 rc11) (ro_c (k := 1) (by decide) (by decide) hc (by decide)) rfl rfl (Nat.le_of_ble_eq_true rfl) (dkAt dk_L_runs_0 24 rfl) 44 rfl (((0 + 1) + 1) + 1) (6 * (((0 + 1) + 1) + 1)) rfl (by show 6 * ((0 + 1) + 1) + 6 = _; omega) (fun v13 M14 hf => ?_) (fun _ _ h => nomatch h)
      refine x_aload_n C rfl rfl (dkAt dk_L_runs_0 25 rfl) 45 rfl ?_
      refine x_aload_n C rfl rfl (dkAt dk_L_runs_0 26 rfl) 46 rfl ?_
      refine x_getIn C nlk_RL_153 (hL.2.1 109 (18, 17) rfl) (dkAt dk_L_runs_0 27 rfl) 49 rfl hf (fun v15 hf => ?_)
      refine x_aload_n C rfl rfl (dkAt dk_L_runs_0 28 rfl) 50 rfl ?_
      refine x_getIn C nlk_RL_146 (hL.2.1 109 (18, 17) rfl) (dkAt dk_L_runs_0 29 rfl) 53 rfl hf (fun v16 hf => ?_)
      refine x_iconst C (v := (-1 : Int32)) (by decide) (dkAt dk_L_runs_0 30 rfl) 54 rfl ?_
      obtain ⟨hc, hf⟩ := if_some hf
      obtain ⟨v17, M18, h19, hf⟩ := cl_inv hf
      refine x_cVl C (c_X12_mean hL h19) mw_X12_mean ln_RL_236 mi_X12_mean (show RC _ 109 RX12 from ⟨12, 17, _, (hL.2.1 109 (18, 17) rfl), rc12, rfl⟩) (ro_c (k := 0) (by decide) (by decide) hc (by decide)) rfl rfl (Nat.le_of_ble_eq_true rfl) (dkAt dk_L_runs_0 31 rfl) 57 rfl _ _ rfl rfl ?_
      change G Γ X M18 (((0 + 1) + 1) + 1) (6 * (((0 + 1) + 1) + 1)) [some (.ref (wad Γ 0)), some (.ref (wad Γ 109)), some (.int (0 : Int32)), some (.int (0 : Int32)), some (.int (-1 : Int32))] [.long v17, .float v13] 57
      refine x_l2f C (dkAt dk_L_runs_0 32 rfl) 58 rfl ?_
      refine x_aload_n C rfl rfl (dkAt dk_L_runs_0 33 rfl) 59 rfl ?_
      obtain ⟨hc, hf⟩ := if_some hf
      obtain ⟨v20, M21, h22, hf⟩ := cl_inv hf
      refine x_cVl C (c_X12_unit hL h22) mw_X12_unit ln_RL_232 mi_X12_unit (show RC _ 109 RX12 from ⟨12, 17, _, (hL.2.1 109 (18, 17) rfl), rc12, rfl⟩) (ro_c (k := 0) (by decide) (by decide) hc (by decide)) rfl rfl (Nat.le_of_ble_eq_true rfl) (dkAt dk_L_runs_0 34 rfl) 62 rfl _ _ rfl rfl ?_
      change G Γ X M21 (((0 + 1) + 1) + 1) (6 * (((0 + 1) + 1) + 1)) [some (.ref (wad Γ 0)), some (.ref (wad Γ 109)), some (.int (0 : Int32)), some (.int (0 : Int32)), some (.int (-1 : Int32))] [.long v20, .float (FP.l2f v17), .float v13] 62
      refine x_l2f C (dkAt dk_L_runs_0 35 rfl) 63 rfl ?_
      refine x_fdivK C (dkAt dk_L_runs_0 36 rfl) 64 rfl hf (fun hf => ?_)
      refine x_fcmp C (dkAt dk_L_runs_0 37 rfl) 65 rfl ?_
      refine x_if_eq C 70 (dkAt dk_L_runs_0 38 rfl) 68 rfl (by decide) hf (fun hf => ?_) (fun hf => ?_)
      · refine x_iconst C (v := (0 : Int32)) (by decide) (dkAt dk_L_runs_0 41 rfl) 71 rfl ?_
        refine x_istore C (L1 := [some (.ref (wad Γ 0)), some (.ref (wad Γ 109)), some (.int (0 : Int32)), some (.int (0 : Int32)), some (.int (-1 : Int32)), some (.int (0 : Int32))]) (dkAt dk_L_runs_0 42 rfl) 73 rfl (by decide) rfl ?_
        refine G.weak (L := [some (.ref (wad Γ 0)), some (.ref (wad Γ 109)), some (.int (0 : Int32)), some (.int (0 : Int32)), some (.int (-1 : Int32)), some (.int (0 : Int32))]) ⟨rfl, rfl, rfl, rfl, rfl, rfl, trivial⟩ ?_
        refine l_L_runs_L73 hN hC hF hL C E ?_ Z _ _ _ _ hf
        intro y43 M44 c45 hf
        refine x_iconst C (v := (0 : Int32)) (by decide) (dkAt dk_L_runs_1 46 rfl) 167 rfl ?_
        refine x_istore C (L1 := [some (.ref (wad Γ 0)), some (.ref (wad Γ 109)), some (.int y43), some (.int (0 : Int32)), some (.int (-1 : Int32)), some (.int (0 : Int32))]) (dkAt dk_L_runs_1 47 rfl) 169 rfl (by decide) rfl ?_
        refine G.weak (L := [some (.ref (wad Γ 0)), some (.ref (wad Γ 109)), some (.int y43), some (.int (0 : Int32)), some (.int (-1 : Int32)), some (.int (0 : Int32))]) ⟨rfl, rfl, rfl, rfl, rfl, rfl, trivial⟩ ?_
        refine l_L_runs_L169 hN hC hF hL C E ?_ Z _ _ _ _ _ hf
        intro y91 M92 c93 hf
        refine x_aload_n C rfl rfl (dkAt dk_L_runs_4 0 rfl) 359 rfl ?_
        obtain ⟨hc, hf⟩ := if_some hf
        refine h_cVi C hf (fun r hr => c_X11_broken hN hr) mw_X11_broken ln_RL_200 mi_X11_broken (hN.rc (ci := 11) sh0 rc11) (ro_c (k := 1) (by decide) (by decide) hc (by decide)) rfl rfl (Nat.le_of_ble_eq_true rfl) (dkAt dk_L_runs_4 1 rfl) 362 rfl (c93 + 1) (6 * (c93 + 1)) rfl (by show 6 * c93 + 6 = _; omega) (fun v94 M95 hf => ?_) (fun _ _ h => nomatch h)
        refine x_iload_n C rfl rfl (dkAt dk_L_runs_4 2 rfl) 363 rfl ?_
        refine x_icmp_ne C 398 (dkAt dk_L_runs_4 3 rfl) 366 rfl (by decide) hf (fun hf => ?_) (fun hf => ?_)
        · refine x_iconst C (v := (0 : Int32)) (by decide) (dkAt dk_L_runs_4 23 rfl) 399 rfl ?_
          exact nomatch hf
        · refine x_iload_n C rfl rfl (dkAt dk_L_runs_4 4 rfl) 367 rfl ?_
          refine x_iconst C (v := (1 : Int32)) (by decide) (dkAt dk_L_runs_4 5 rfl) 368 rfl ?_
          refine x_aload_n C rfl rfl (dkAt dk_L_runs_4 6 rfl) 369 rfl ?_
          refine x_getIn C nlk_RL_133 (hL.2.1 109 (18, 17) rfl) (dkAt dk_L_runs_4 7 rfl) 372 rfl hf (fun v96 hf => ?_)
          refine x_ishl C (dkAt dk_L_runs_4 8 rfl) 373 rfl ?_
          refine x_iconst C (v := (1 : Int32)) (by decide) (dkAt dk_L_runs_4 9 rfl) 374 rfl ?_
          refine x_isub C (dkAt dk_L_runs_4 10 rfl) 375 rfl ?_
          refine x_icmp_ne C 398 (dkAt dk_L_runs_4 11 rfl) 378 rfl (by decide) hf (fun hf => ?_) (fun hf => ?_)
          · refine x_iconst C (v := (0 : Int32)) (by decide) (dkAt dk_L_runs_4 23 rfl) 399 rfl ?_
            exact nomatch hf
          · refine x_aload_n C rfl rfl (dkAt dk_L_runs_4 12 rfl) 379 rfl ?_
            refine x_bipush C (v := (8 : Int32)) (by decide) (dkAt dk_L_runs_4 13 rfl) 381 rfl ?_
            refine x_aload_n C rfl rfl (dkAt dk_L_runs_4 14 rfl) 382 rfl ?_
            refine x_getIn C nlk_RL_133 (hL.2.1 109 (18, 17) rfl) (dkAt dk_L_runs_4 15 rfl) 385 rfl hf (fun v97 hf => ?_)
            refine x_iconst C (v := (0 : Int32)) (by decide) (dkAt dk_L_runs_4 16 rfl) 386 rfl ?_
            refine x_iconst C (v := (0 : Int32)) (by decide) (dkAt dk_L_runs_4 17 rfl) 387 rfl ?_
            obtain ⟨hc, hf⟩ := if_some hf
            obtain ⟨v98, M99, h100, hf⟩ := cl_inv hf
            refine x_cW C (c_L_thrown_8 hN hC h100) mww_L_thrown ln_RL_191 (ro_c (k := 2) (by decide) (by decide) hc (by decide)) rfl rfl (Nat.le_of_ble_eq_true rfl) (dkAt dk_L_runs_4 18 rfl) 390 rfl ((c93 + 1) + 2) (6 * ((c93 + 1) + 2)) rfl (by show 6 * (c93 + 1) + 12 = _; omega) ?_
            refine x_iconst C (v := (2 : Int32)) (by decide) (dkAt dk_L_runs_4 19 rfl) 391 rfl ?_
            refine x_icmp_ne C 398 (dkAt dk_L_runs_4 20 rfl) 394 rfl (by decide) hf (fun hf => ?_) (fun hf => ?_)
            · refine x_iconst C (v := (0 : Int32)) (by decide) (dkAt dk_L_runs_4 23 rfl) 399 rfl ?_
              exact nomatch hf
            · refine x_iconst C (v := (1 : Int32)) (by decide) (dkAt dk_L_runs_4 21 rfl) 395 rfl ?_
              refine x_goto C 399 (dkAt dk_L_runs_4 22 rfl) (by decide) ?_
              obtain ⟨hc9, hf⟩ := if_some hf
              exact x_zret C E (by decide) hf hc9 (Nat.mul_le_mul_left _ hc9) (dkAt dk_L_runs_4 24 rfl)
      · refine x_iconst C (v := (0 : Int32)) (by decide) (dkAt dk_L_runs_0 39 rfl) 69 rfl ?_
        exact nomatch hf
