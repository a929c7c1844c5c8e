theorem d_cSX {Γ : WC} {K9 : Mem → Prop} {X : MX} {M M1 : Mem} {cs sl : Nat} {pc : Nat} {cc : ByteArray} {nL : Nat} {own : String} {ret : Option FieldType} {R0 : Room} {ad0 ad : Nat → Nat} {l0 l : List Nat} {L : List (Option SV)} {st : List SV} {K1 : Mem → Prop} {y : MethodName} {bytes : ByteArray} {maxL idx k cs1 sl1 b : Nat} {rm : Room} {As : List SV} {l1 : List Nat} {v : Option SV} {rt : Option FieldType} (C : CX Γ X cc nL own ret R0) (hM : CtX Γ b K9 K1 y bytes maxL rt rm l l1 As M v M1) (hb9 : ad 999 = b) (mw : MW y bytes maxL rt k) (ln : Gd (.methodLink own idx y)) (mi : Gd (.static y)) (hr : RO rm R0 maxL cs sl) (hn : As.length = k) (hag : agr l0 ad0 ad) (h0 : ∀ o, o ∈ l0 → o ∈ l) {L1 : List (Option Value)} {st1 : List Value} (hL1 : L1 = evL ad L) (hs1 : st1 = (evS ad As).reverse ++ evS ad st) (hL : svL l L) (hs : svS l st) (hw : ((evS ad st).map fun v => v.category).sum ≤ 8) (d : decode cc pc = .ok (.invokestatic idx, 3)) (q : Nat) (hq : pc + 3 = q) (ec : cs + rm.cells = cs1) (es : sl + rm.slots = sl1) (K : KD Γ K1 ad0 l0 X l1 M1 cs1 sl1 L v st q) : G (gc Γ K9 ad l) X M cs sl L1 st1 pc := by
  have K2 := fun {ad1} => K.go (ad := ad) hag h0 hL hs (ad1 := ad1)
  obtain ⟨p, e, R, s, m, args, below, meth, c, Q⟩ := X
  obtain ⟨hx, hb, hml, hown, hts, hW, hlk, hret, rfl, hK, hSs, hG⟩ := C
  subst hL1; subst hs1; subst hml; subst hq; subst ec; subst es
  intro H locs ls a1 a2 a3 a4 a5
  exact callD (va_runS (Ts := []) (own := own) ⟨hx, hb, rfl, hown, fun _ h => nomatch h⟩ (hM ad hb9) ⟨cw_B hW hts hG mw hr ln, hts _ mi⟩ ⟨WP.blind (Γ := gc Γ K9 ad l), fun U hU hU2 => ⟨rfl, a1, State.WarmedH.trans hW hU2, by rw [hU]; exact S_nil a4, by rw [hU]; exact a2, a3⟩⟩ rfl (evS_len.trans hn) a5.1 rfl (lv_room hw) d ⟨hr.2.2.1, hr.2.2.2⟩) a4 (fun H1 locs1 ad1 hg hK1 b1 b2 b3 => K2 hg hK1 H1 locs1 ls hK1 b1 b2 b3 a5)
theorem npk_RL_146 : NPk RL 146 12 3 0 (fun v => ∃ x, v = .int x) := ⟨_, _, _, "DecisionChainLaw", tyX12, rc12, by decide, by decide +kernel, uw12, gd 736 (by decide +kernel) rfl, rfl, tyX12_ok, nmX12, (fun v h => by obtain ⟨x, rfl⟩ := h; exact ⟨rfl, rfl⟩)⟩
theorem npk_RL_153 : NPk RL 153 12 5 0 (fun v => ∃ x, v = .int x) := ⟨_, _, _, "DecisionChainLaw", tyX12, rc12, by decide, by decide +kernel, uw12, gd 740 (by decide +kernel) rfl, rfl, tyX12_ok, nmX12, (fun v h => by obtain ⟨x, rfl⟩ := h; exact ⟨rfl, rfl⟩)⟩
theorem ln_RL_203 : Gd (.methodLink RL 203 yL_rules) := gd 1506 (by decide +kernel) rfl
theorem ln_RL_207 : Gd (.methodLink RL 207 yX11_setStart) := gd 1513 (by decide +kernel) rfl
theorem ln_RL_210 : Gd (.methodLink RL 210 yX12_go) := gd 1517 (by decide +kernel) rfl
theorem ln_RL_213 : Gd (.methodLink RL 213 yX11_walk) := gd 1525 (by decide +kernel) rfl
theorem ln_RL_215 : Gd (.methodLink RL 215 yX11_walkGain) := gd 1530 (by decide +kernel) rfl
theorem mw_L_rules : MW yL_rules cL_rules 6 (some .boolean) 4 := ⟨gd 46 (by decide +kernel) rfl, gd 1508 (by decide +kernel) rfl, ⟨by decide, by decide⟩, by decide +kernel⟩
theorem mw_X11_setStart : MW yX11_setStart cX11_setStart 3 (some .int) 1 := ⟨gd 61 (by decide +kernel) rfl, gd 1516 (by decide +kernel) rfl, ⟨by decide, by decide⟩, by decide +kernel⟩
theorem mw_X11_walk : MW yX11_walk cX11_walk 2 (some .int) 0 := ⟨gd 61 (by decide +kernel) rfl, gd 1528 (by decide +kernel) rfl, ⟨by decide, by decide⟩, by decide +kernel⟩
theorem mw_X11_walkGain : MW yX11_walkGain cX11_walkGain 3 (some .int) 0 := ⟨gd 61 (by decide +kernel) rfl, gd 1533 (by decide +kernel) rfl, ⟨by decide, by decide⟩, by decide +kernel⟩
theorem mw_X12_go : MW yX12_go cX12_go 9 (some .int) 0 := ⟨gd 48 (by decide +kernel) rfl, gd 1520 (by decide +kernel) rfl, ⟨by decide, by decide⟩, by decide +kernel⟩
theorem mi_X11_setStart : (Gd (.instanceMethod yX11_setStart) ∧ Gd (.selects yX11_setStart.cls yX11_setStart yX11_setStart)) := ⟨gd 1514 (by decide +kernel) rfl, gd 1515 (by decide +kernel) rfl⟩
theorem mi_X11_walk : (Gd (.instanceMethod yX11_walk) ∧ Gd (.selects yX11_walk.cls yX11_walk yX11_walk)) := ⟨gd 1526 (by decide +kernel) rfl, gd 1527 (by decide +kernel) rfl⟩
theorem mi_X11_walkGain : (Gd (.instanceMethod yX11_walkGain) ∧ Gd (.selects yX11_walkGain.cls yX11_walkGain yX11_walkGain)) := ⟨gd 1531 (by decide +kernel) rfl, gd 1532 (by decide +kernel) rfl⟩
theorem mi_X12_go : (Gd (.instanceMethod yX12_go) ∧ Gd (.selects yX12_go.cls yX12_go yX12_go)) := ⟨gd 1518 (by decide +kernel) rfl, gd 1519 (by decide +kernel) rfl⟩
theorem ms_L_rules : Gd (.static yL_rules) := gd 1507 (by decide +kernel) rfl
noncomputable def f_L_act_L238 (sh : Nat → Option SE) (Z : Nat) (LX : Nat) (xs : Nat → Int32) (c : Nat) (v5 : Int32) (v9 : Int32) (M23 : Mem) (t25 : Int32) (v27 : Int32) (k : Int32 → Option (Nat × Mem)) : Nat → Int32 → Int32 → Option (Nat × Mem)
  | 0, _, _ => none
  | n + 1, x28, x29 => rdI M23 111 6 v5 (fun v30 => (if v30 ≤ x29 then k x28 else jn (fun (t31 : Int32) => f_L_act_L238 sh Z LX xs c v5 v9 M23 t25 v27 k n (x28 ||| t31) (x29 + (1 : Int32))) (fun j32 => jn (fun (t33 : Unit) => j32 (0 : Int32)) (fun j34 => (if x29 = v9 then j34 () else rdQ M23 201 6 v5 sh (3, 3) (fun o35 => rdI M23 o35 3 x29 (fun v36 => (if v36 = 0 then j34 () else j32 (1 : Int32)))))))))
noncomputable def f_L_act_s (sh : Nat → Option SE) (Z : Nat) (LX : Nat) (xs : Nat → Int32) (kq : Int32 → Mem → Nat → Option (Nat × Mem)) (kr : Mem → Option (Nat × Mem)) (M : Mem) (c : Nat) : Option (Nat × Mem) :=
  (if c + 0 ≤ 80 then cl (f_X13_next LX xs M (0 : Int32) (6 : Int32)) (fun v1 M2 => bd (gI M2 (109) 1) (fun v4 => (if c + 0 ≤ 80 then cl (f_X13_next LX xs M2 (0 : Int32) (v4 - (1 : Int32))) (fun v5 M6 => rdI M6 111 6 v5 (fun v8 => (if c + 0 ≤ 80 then cl (f_X13_next LX xs M6 (0 : Int32) (v8 - (1 : Int32))) (fun v9 M10 => (if (2 : Int32) ≤ v1 then jn (fun (t12 : Unit) => (if v1 = (3 : Int32) then bd (gI M10 (109) 5) (fun v54 => bd (sI M10 (109) 5 v5) (fun M55 => (if c + 2 ≤ 80 then clT (f_X11_setStart Z M55 v5) (fun v56 M57 => (if v56 = v54 then (if (c + 2) ≤ 80 then kr M57 else none) else none)) (fun _ _ => none) else none))) else (if v1 = (4 : Int32) then bd (gI M10 (109) 3) (fun v46 => (if c + 0 ≤ 80 then cl (f_X13_next LX xs M10 (1 : Int32) (4 : Int32)) (fun v47 M48 => bd (sI M48 (109) 3 v47) (fun M50 => bd (gI M50 (109) 3) (fun v51 => (if c + 2 ≤ 80 then clT (f_X11_setHorizon Z M50 v51) (fun v52 M53 => (if v52 = v46 then (if (c + 2) ≤ 80 then kr M53 else none) else none)) (fun _ _ => none) else none)))) else none)) else (if v1 = (5 : Int32) then (if c + 0 ≤ 80 then cl (f_X13_next LX xs M10 (0 : Int32) (1 : Int32)) (fun v22 M23 => jn (fun (t25 : Int32) => rdQ M23 201 6 v5 sh (3, 3) (fun o26 => rdI M23 o26 3 v9 (fun v27 => f_L_act_L238 sh Z LX xs c v5 v9 M23 t25 v27 (fun (y37 : Int32) => (if y37 = 0 then (if c + 4 ≤ 80 then cl (f_L_thrown_19 Z M23 v5 v9 (0 : Int32)) (fun v42 M43 => (if v42 = (3 : Int32) then (if (c + 4) ≤ 80 then kr M43 else none) else none)) else none) else rdQ M23 201 6 v5 sh (3, 3) (fun o38 => wrZ M23 o38 3 v9 t25 (fun M39 => (if c + 4 ≤ 80 then clT (f_X11_permit Z M39 v5 v9 t25) (fun v40 M41 => (if v40 = v27 then (if (c + 4) ≤ 80 then kr M41 else none) else none)) (fun _ _ => none) else none))))) Z t25 (0 : Int32)))) (fun j45 => (if v22 = 0 then j45 (1 : Int32) else j45 (0 : Int32)))) else none) else (if c + 0 ≤ 80 then cl (f_X12_go sh Z M10) (fun v13 M14 => (if c + 1 ≤ 80 then clT (f_X11_walk Z M14) (fun v16 M17 => bd (gI M17 (109) 14) (fun v18 => rdI M17 208 6 v18 (fun v19 => (if v16 = v19 then (if (c + 1) + 2 ≤ 80 then clT (f_X11_walkGain Z M17) (fun v20 M21 => (if v20 = v13 then (if ((c + 1) + 2) ≤ 80 then kr M21 else none) else none)) (fun _ _ => none) else none) else none)))) (fun _ _ => none) else none)) else none))))) (fun j58 => (if v1 = (2 : Int32) then bd (gI M10 (109) 2) (fun v59 => (if v59 ≤ 0 then j58 () else bd (gI M10 (109) 2) (fun v60 => (if c + 0 ≤ 80 then cl (f_X13_next LX xs M10 (0 : Int32) (v60 - (1 : Int32))) (fun v61 M62 => rdI M62 110 3 v61 (fun v64 => (if c + 0 ≤ 80 then cl (f_X13_next LX xs M62 (0 : Int32) (200 : Int32)) (fun v65 M66 => wrI M66 110 3 v61 v65 (fun M68 => rdI M68 110 3 v61 (fun v69 => (if c + 3 ≤ 80 then clT (f_X11_setLimit Z M68 v61 v69) (fun v70 M71 => (if v70 = v64 then (if (c + 3) ≤ 80 then kr M71 else none) else none)) (fun _ _ => none) else none)))) else none))) else none)))) else j58 ())) else kq v5 M10 c)) else none))) else none))) else none)
set_option maxRecDepth 100000 in
theorem l_L_act_L238 {Γ : WC} {X : MX} {sh : Nat → Option SE} (hN : HN Γ) (hC : NC Γ) (hF : HF Γ) (hL : HLa Γ sh) {b : Nat} {LX : Nat} {xs : Nat → Int32} (hX : HX Γ b LX xs) (C : CX Γ X cL_act 10 RL (some .boolean) (rmL 60 80 (6 * 80))) {rM : Nat × Mem} (E : True) {Z : Nat} {c : Nat} {v5 : Int32} {v9 : Int32} {M23 : Mem} {t25 : Int32} {v27 : Int32} {k : Int32 → Option (Nat × Mem)} (hk : ∀ (a8 : Int32), k a8 = some rM → G Γ X M23 c (6 * c) [some (.ref (wad Γ 0)), some (.ref (wad Γ 109)), none, none, some (.int v5), some (.int v9), some (.int t25), some (.int v27), some (.int a8)] [] 286) : ∀ (n : Nat) (x28 : Int32) (x29 : Int32), f_L_act_L238 sh Z LX xs c v5 v9 M23 t25 v27 k n x28 x29 = some rM → G Γ X M23 c (6 * c) [some (.ref (wad Γ 0)), some (.ref (wad Γ 109)), none, none, some (.int v5), some (.int v9), some (.int t25), some (.int v27), some (.int x28), some (.int x29)] [] 238 := by
  intro n
  induction n with
  | zero =>
    intro x28 x29 hf
    have hf0 : (none : Option _) = some rM := hf
    cases hf0
  | succ n ih =>
    intro x28 x29 hf
    rw [f_L_act_L238] at hf
    refine x_iload C rfl (dkAt dk_L_act_2 39 rfl) 240 rfl ?_
    refine x_aload_n C rfl rfl (dkAt dk_L_act_2 40 rfl) 241 rfl ?_
    refine x_getSn C nlk_RL_161 (hL.2.1 109 (18, 17) rfl) (hL.2.2.2 109 7 111 rfl) (dkAt dk_L_act_2 41 rfl) 244 rfl ?_
    refine x_iload C rfl (dkAt dk_L_act_2 42 rfl) 246 rfl ?_
    refine x_iald C (hL.2.1 111 (0, 6) rfl) (dkAt dk_L_act_2 43 rfl) 247 rfl hf (fun v30 hf => ?_)
    refine x_icmp_ge C 286 (dkAt dk_L_act_2 44 rfl) 250 rfl (by decide) hf (fun hf => ?_) (fun hf => ?_)
    · exact G.weak (L := [some (.ref (wad Γ 0)), some (.ref (wad Γ 109)), none, none, some (.int v5), some (.int v9), some (.int t25), some (.int v27), some (.int x28)]) ⟨rfl, rfl, rfl, rfl, rfl, rfl, rfl, trivial⟩ (hk _ hf)
    · refine x_iload C rfl (dkAt dk_L_act_2 45 rfl) 252 rfl ?_
      refine x_iload C rfl (dkAt dk_L_act_2 46 rfl) 254 rfl ?_
      refine x_iload C rfl (dkAt dk_L_act_2 47 rfl) 256 rfl ?_
      refine x_join hf (fun t31 => G Γ X M23 c (6 * c) [some (.ref (wad Γ 0)), some (.ref (wad Γ 109)), none, none, some (.int v5), some (.int v9), some (.int t25), some (.int v27), none, some (.int x29)] [.int t31, .int x28] 277) (fun t31 hf => ?_) (fun j32 hj32 hf => ?_)
      · refine x_ior C (dkAt dk_L_act_3 11 rfl) 278 rfl ?_
        refine x_istore C (L1 := [some (.ref (wad Γ 0)), some (.ref (wad Γ 109)), none, none, some (.int v5), some (.int v9), some (.int t25), some (.int v27), some (.int (x28 ||| t31)), some (.int x29)]) (dkAt dk_L_act_3 12 rfl) 280 rfl (by decide) rfl ?_
        refine x_iinc C (v := (x29 + (1 : Int32))) (L1 := [some (.ref (wad Γ 0)), some (.ref (wad Γ 109)), none, none, some (.int v5), some (.int v9), some (.int t25), some (.int v27), some (.int (x28 ||| t31)), some (.int (x29 + (1 : Int32)))]) (dkAt dk_L_act_3 13 rfl) 283 rfl rfl rfl (by decide) rfl ?_
        refine x_goto C 238 (dkAt dk_L_act_3 14 rfl) (by decide) ?_
        exact G.weak (L := [some (.ref (wad Γ 0)), some (.ref (wad Γ 109)), none, none, some (.int v5), some (.int v9), some (.int t25), some (.int v27), some (.int (x28 ||| t31)), some (.int (x29 + (1 : Int32)))]) ⟨rfl, rfl, rfl, rfl, rfl, rfl, rfl, rfl, trivial⟩ (ih _ _ hf)
      · refine x_join hf (fun t33 => G Γ X M23 c (6 * c) [some (.ref (wad Γ 0)), some (.ref (wad Γ 109)), none, none, some (.int v5), some (.int v9), some (.int t25), some (.int v27), none, some (.int x29)] [.int x28] 276) (fun t33 hf => ?_) (fun j34 hj34 hf => ?_)
        · refine x_iconst C (v := (0 : Int32)) (by decide) (dkAt dk_L_act_3 10 rfl) 277 rfl ?_
          exact G.weak (L := [some (.ref (wad Γ 0)), some (.ref (wad Γ 109)), none, none, some (.int v5), some (.int v9), some (.int t25), some (.int v27), none, some (.int x29)]) ⟨rfl, rfl, rfl, rfl, rfl, rfl, rfl, trivial⟩ (hj32 _ hf)
        · refine x_icmp_eq C 276 (dkAt dk_L_act_3 0 rfl) 259 rfl (by decide) hf (fun hf => ?_) (fun hf => ?_)
          · exact G.weak (L := [some (.ref (wad Γ 0)), some (.ref (wad Γ 109)), none, none, some (.int v5), some (.int v9), some (.int t25), some (.int v27), none, some (.int x29)]) ⟨rfl, rfl, rfl, rfl, rfl, rfl, rfl, trivial⟩ (hj34 _ hf)
          · refine x_aload_n C rfl rfl (dkAt dk_L_act_3 1 rfl) 260 rfl ?_
            refine x_getSn C nlk_RL_176 (hL.2.1 109 (18, 17) rfl) (hL.2.2.2 109 13 201 rfl) (dkAt dk_L_act_3 2 rfl) 263 rfl ?_
            refine x_iload C rfl (dkAt dk_L_act_3 3 rfl) 265 rfl ?_
            refine x_qald C (k9 := 3) (n := 6) (by decide) (by decide) (hL.2.1 201 (5, 3006) rfl) (dkAt dk_L_act_3 4 rfl) 266 rfl hf (fun o35 h_o35 hf => ?_)
            refine x_iload C rfl (dkAt dk_L_act_3 5 rfl) 268 rfl ?_
            refine x_zald C (hL.2.2.1 _ _ h_o35) (dkAt dk_L_act_3 6 rfl) 269 rfl hf (fun v36 hf => ?_)
            refine x_if_eq C 276 (dkAt dk_L_act_3 7 rfl) 272 rfl (by decide) hf (fun hf => ?_) (fun hf => ?_)
            · exact G.weak (L := [some (.ref (wad Γ 0)), some (.ref (wad Γ 109)), none, none, some (.int v5), some (.int v9), some (.int t25), some (.int v27), none, some (.int x29)]) ⟨rfl, rfl, rfl, rfl, rfl, rfl, rfl, trivial⟩ (hj34 _ hf)
            · refine x_iconst C (v := (1 : Int32)) (by decide) (dkAt dk_L_act_3 8 rfl) 273 rfl ?_
              refine x_goto C 277 (dkAt dk_L_act_3 9 rfl) (by decide) ?_
              exact G.weak (L := [some (.ref (wad Γ 0)), some (.ref (wad Γ 109)), none, none, some (.int v5), some (.int v9), some (.int t25), some (.int v27), none, some (.int x29)]) ⟨rfl, rfl, rfl, rfl, rfl, rfl, rfl, trivial⟩ (hj32 _ hf)
set_option maxRecDepth 100000 in
theorem s_L_act_s {Γ : WC} {X : MX} {sh : Nat → Option SE} (hN : HN Γ) (hC : NC Γ) (hF : HF Γ) (hL : HLa Γ sh) {b : Nat} {LX : Nat} {xs : Nat → Int32} (hX : HX Γ b LX xs) (C : CX Γ X cL_act 10 RL (some .boolean) (rmL 60 80 (6 * 80))) {rM : Nat × Mem} (E : True) {Z : Nat} {kq : Int32 → Mem → Nat → Option (Nat × Mem)} {kr : Mem → Option (Nat × Mem)} (hkq : ∀ (s0 : Int32) (Mx : Mem) (cx : Nat), kq s0 Mx cx = some rM → G Γ X Mx cx (6 * cx) [] [.int s0, .ref (wad Γ 108), .ref (wad Γ 109), .ref (wad Γ 0)] 47) (hend : ∀ (pc : Nat) (Mx : Mem) (cx : Nat) (Lx : List (Option Value)), decode cL_act pc = .ok (.ireturn, 1) → cx ≤ 80 → kr Mx = some rM → G Γ X Mx cx (6 * cx) Lx [.int (1 : Int32)] pc) {M : Mem} {c : Nat} (hf : f_L_act_s sh Z LX xs kq kr M c = some rM) : G Γ X M c (6 * c) [some (.ref (wad Γ 0)), some (.ref (wad Γ 109)), some (.ref (wad Γ 108))] [] 0 := by
  unfold f_L_act_s at hf
  refine x_aload_n C rfl rfl (dkAt dk_L_act_0 0 rfl) 1 rfl ?_
  refine x_iconst C (v := (0 : Int32)) (by decide) (dkAt dk_L_act_0 1 rfl) 2 rfl ?_
  refine x_bipush C (v := (6 : Int32)) (by decide) (dkAt dk_L_act_0 2 rfl) 4 rfl ?_
  obtain ⟨hc, hf⟩ := if_some hf
  obtain ⟨v1, M2, h3, hf⟩ := cl_inv hf
  refine x_cVi C (c_X13_next hL hX h3) mw_X13_next ln_RL_195 mi_X13_next (show RC _ 108 RX13 from ⟨13, 2, _, (hL.2.1 108 (19, 2) rfl), rc13, rfl⟩) (ro_c (k := 0) (by decide) (by decide) hc (Nat.zero_le _)) rfl rfl (Nat.le_of_ble_eq_true rfl) (dkAt dk_L_act_0 3 rfl) 7 rfl _ _ rfl rfl ?_
  change G Γ X M2 c (6 * c) [some (.ref (wad Γ 0)), some (.ref (wad Γ 109)), some (.ref (wad Γ 108))] [.int v1] 7
  refine x_istore_n C (L1 := [some (.ref (wad Γ 0)), some (.ref (wad Γ 109)), some (.ref (wad Γ 108)), some (.int v1)]) (dkAt dk_L_act_0 4 rfl) 8 rfl rfl (by decide) rfl ?_
  refine x_aload_n C rfl rfl (dkAt dk_L_act_0 5 rfl) 9 rfl ?_
  refine x_iconst C (v := (0 : Int32)) (by decide) (dkAt dk_L_act_0 6 rfl) 10 rfl ?_
  refine x_aload_n C rfl rfl (dkAt dk_L_act_0 7 rfl) 11 rfl ?_
  refine x_getIn C nlk_RL_133 (hL.2.1 109 (18, 17) rfl) (dkAt dk_L_act_0 8 rfl) 14 rfl hf (fun v4 hf => ?_)
  refine x_iconst C (v := (1 : Int32)) (by decide) (dkAt dk_L_act_0 9 rfl) 15 rfl ?_
  refine x_isub C (dkAt dk_L_act_0 10 rfl) 16 rfl ?_
  obtain ⟨hc, hf⟩ := if_some hf
  obtain ⟨v5, M6, h7, hf⟩ := cl_inv hf
  refine x_cVi C (c_X13_next hL hX h7) mw_X13_next ln_RL_195 mi_X13_next (show RC _ 108 RX13 from ⟨13, 2, _, (hL.2.1 108 (19, 2) rfl), rc13, rfl⟩) (ro_c (k := 0) (by decide) (by decide) hc (Nat.zero_le _)) rfl rfl (Nat.le_of_ble_eq_true rfl) (dkAt dk_L_act_0 11 rfl) 19 rfl _ _ rfl rfl ?_
  change G Γ X M6 c (6 * c) [some (.ref (wad Γ 0)), some (.ref (wad Γ 109)), some (.ref (wad Γ 108)), some (.int v1)] [.int v5] 19
  refine x_istore C (L1 := [some (.ref (wad Γ 0)), some (.ref (wad Γ 109)), some (.ref (wad Γ 108)), some (.int v1), some (.int v5)]) (dkAt dk_L_act_0 12 rfl) 21 rfl (by decide) rfl ?_
  refine x_aload_n C rfl rfl (dkAt dk_L_act_0 13 rfl) 22 rfl ?_
  refine x_iconst C (v := (0 : Int32)) (by decide) (dkAt dk_L_act_0 14 rfl) 23 rfl ?_
  refine x_aload_n C rfl rfl (dkAt dk_L_act_0 15 rfl) 24 rfl ?_
  refine x_getSn C nlk_RL_161 (hL.2.1 109 (18, 17) rfl) (hL.2.2.2 109 7 111 rfl) (dkAt dk_L_act_0 16 rfl) 27 rfl ?_
  refine x_iload C rfl (dkAt dk_L_act_0 17 rfl) 29 rfl ?_
  refine x_iald C (hL.2.1 111 (0, 6) rfl) (dkAt dk_L_act_0 18 rfl) 30 rfl hf (fun v8 hf => ?_)
  refine x_iconst C (v := (1 : Int32)) (by decide) (dkAt dk_L_act_0 19 rfl) 31 rfl ?_
  refine x_isub C (dkAt dk_L_act_0 20 rfl) 32 rfl ?_
  obtain ⟨hc, hf⟩ := if_some hf
  obtain ⟨v9, M10, h11, hf⟩ := cl_inv hf
  refine x_cVi C (c_X13_next hL hX h11) mw_X13_next ln_RL_195 mi_X13_next (show RC _ 108 RX13 from ⟨13, 2, _, (hL.2.1 108 (19, 2) rfl), rc13, rfl⟩) (ro_c (k := 0) (by decide) (by decide) hc (Nat.zero_le _)) rfl rfl (Nat.le_of_ble_eq_true rfl) (dkAt dk_L_act_0 21 rfl) 35 rfl _ _ rfl rfl ?_
  change G Γ X M10 c (6 * c) [some (.ref (wad Γ 0)), some (.ref (wad Γ 109)), some (.ref (wad Γ 108)), some (.int v1), some (.int v5)] [.int v9] 35
  refine x_istore C (L1 := [some (.ref (wad Γ 0)), some (.ref (wad Γ 109)), some (.ref (wad Γ 108)), some (.int v1), some (.int v5), some (.int v9)]) (dkAt dk_L_act_0 22 rfl) 37 rfl (by decide) rfl ?_
  refine x_iload_n C rfl rfl (dkAt dk_L_act_0 23 rfl) 38 rfl ?_
  refine x_iconst C (v := (2 : Int32)) (by decide) (dkAt dk_L_act_0 24 rfl) 39 rfl ?_
  refine x_icmp_ge C 51 (dkAt dk_L_act_0 25 rfl) 42 rfl (by decide) hf (fun hf => ?_) (fun hf => ?_)
  · refine x_iload_n C rfl rfl (dkAt dk_L_act_0 32 rfl) 52 rfl ?_
    refine x_iconst C (v := (2 : Int32)) (by decide) (dkAt dk_L_act_0 33 rfl) 53 rfl ?_
    refine x_join hf (fun t12 => G Γ X M10 c (6 * c) [some (.ref (wad Γ 0)), some (.ref (wad Γ 109)), some (.ref (wad Γ 108)), some (.int v1), some (.int v5), some (.int v9)] [] 124) (fun t12 hf => ?_) (fun j58 hj58 hf => ?_)
    · refine x_iload_n C rfl rfl (dkAt dk_L_act_1 24 rfl) 125 rfl ?_
      refine x_iconst C (v := (3 : Int32)) (by decide) (dkAt dk_L_act_1 25 rfl) 126 rfl ?_
      refine x_icmp_ne C 158 (dkAt dk_L_act_1 26 rfl) 129 rfl (by decide) hf (fun hf => ?_) (fun hf => ?_)
      · refine x_iload_n C rfl rfl (dkAt dk_L_act_1 42 rfl) 159 rfl ?_
        refine x_iconst C (v := (4 : Int32)) (by decide) (dkAt dk_L_act_1 43 rfl) 160 rfl ?_
        refine x_icmp_ne C 198 (dkAt dk_L_act_1 44 rfl) 163 rfl (by decide) hf (fun hf => ?_) (fun hf => ?_)
        · refine x_iload_n C rfl rfl (dkAt dk_L_act_2 16 rfl) 199 rfl ?_
          refine x_iconst C (v := (5 : Int32)) (by decide) (dkAt dk_L_act_2 17 rfl) 200 rfl ?_
          refine x_icmp_ne C 345 (dkAt dk_L_act_2 18 rfl) 203 rfl (by decide) hf (fun hf => ?_) (fun hf => ?_)
          · refine x_aload_n C rfl rfl (dkAt dk_L_act_3 47 rfl) 346 rfl ?_
            obtain ⟨hc, hf⟩ := if_some hf
            obtain ⟨v13, M14, h15, hf⟩ := cl_inv hf
            refine x_cVi C (c_X12_go hL h15) mw_X12_go ln_RL_210 mi_X12_go (show RC _ 109 RX12 from ⟨12, 17, _, (hL.2.1 109 (18, 17) rfl), rc12, rfl⟩) (ro_c (k := 0) (by decide) (by decide) hc (by decide)) rfl rfl (Nat.le_of_ble_eq_true rfl) (dkAt dk_L_act_4 0 rfl) 349 rfl _ _ rfl rfl ?_
            change G Γ X M14 c (6 * c) [some (.ref (wad Γ 0)), some (.ref (wad Γ 109)), some (.ref (wad Γ 108)), some (.int v1), some (.int v5), some (.int v9)] [.int v13] 349
            refine x_istore C (L1 := [some (.ref (wad Γ 0)), some (.ref (wad Γ 109)), some (.ref (wad Γ 108)), some (.int v1), some (.int v5), some (.int v9), some (.int v13)]) (dkAt dk_L_act_4 1 rfl) 351 rfl (by decide) rfl ?_
            refine x_aload_n C rfl rfl (dkAt dk_L_act_4 2 rfl) 352 rfl ?_
            obtain ⟨hc, hf⟩ := if_some hf
            refine h_cVi C hf (fun r hr => c_X11_walk hN hr) mw_X11_walk ln_RL_213 mi_X11_walk (hN.rc (ci := 11) sh0 rc11) (ro_c (k := 1) (by decide) (by decide) hc (by decide)) rfl rfl (Nat.le_of_ble_eq_true rfl) (dkAt dk_L_act_4 3 rfl) 355 rfl (c + 1) (6 * (c + 1)) rfl (by show 6 * c + 6 = _; omega) (fun v16 M17 hf => ?_) (fun _ _ h => nomatch h)
            refine x_aload_n C rfl rfl (dkAt dk_L_act_4 4 rfl) 356 rfl ?_
            refine x_getSn C nlk_RL_182 (hL.2.1 109 (18, 17) rfl) (hL.2.2.2 109 15 208 rfl) (dkAt dk_L_act_4 5 rfl) 359 rfl ?_
            refine x_aload_n C rfl rfl (dkAt dk_L_act_4 6 rfl) 360 rfl ?_
            refine x_getIn C nlk_RL_179 (hL.2.1 109 (18, 17) rfl) (dkAt dk_L_act_4 7 rfl) 363 rfl hf (fun v18 hf => ?_)
            refine x_iald C (hL.2.1 208 (0, 6) rfl) (dkAt dk_L_act_4 8 rfl) 364 rfl hf (fun v19 hf => ?_)
            refine x_icmp_ne C 380 (dkAt dk_L_act_4 9 rfl) 367 rfl (by decide) hf (fun hf => ?_) (fun hf => ?_)
            · refine x_iconst C (v := (0 : Int32)) (by decide) (dkAt dk_L_act_4 16 rfl) 381 rfl ?_
              exact nomatch hf
            · refine x_aload_n C rfl rfl (dkAt dk_L_act_4 10 rfl) 368 rfl ?_
              obtain ⟨hc, hf⟩ := if_some hf
              refine h_cVi C hf (fun r hr => c_X11_walkGain hN hr) mw_X11_walkGain ln_RL_215 mi_X11_walkGain (hN.rc (ci := 11) sh0 rc11) (ro_c (k := 2) (by decide) (by decide) hc (by decide)) rfl rfl (Nat.le_of_ble_eq_true rfl) (dkAt dk_L_act_4 11 rfl) 371 rfl ((c + 1) + 2) (6 * ((c + 1) + 2)) rfl (by show 6 * (c + 1) + 12 = _; omega) (fun v20 M21 hf => ?_) (fun _ _ h => nomatch h)
              refine x_iload C rfl (dkAt dk_L_act_4 12 rfl) 373 rfl ?_
              refine x_icmp_ne C 380 (dkAt dk_L_act_4 13 rfl) 376 rfl (by decide) hf (fun hf => ?_) (fun hf => ?_)
              · refine x_iconst C (v := (0 : Int32)) (by decide) (dkAt dk_L_act_4 16 rfl) 381 rfl ?_
                exact nomatch hf
              · refine x_iconst C (v := (1 : Int32)) (by decide) (dkAt dk_L_act_4 14 rfl) 377 rfl ?_
                refine x_goto C 381 (dkAt dk_L_act_4 15 rfl) (by decide) ?_
                obtain ⟨hc9, hf⟩ := if_some hf
                exact hend _ _ _ _ (dkAt dk_L_act_4 17 rfl) hc9 hf
          · refine x_aload_n C rfl rfl (dkAt dk_L_act_2 19 rfl) 204 rfl ?_
            refine x_iconst C (v := (0 : Int32)) (by decide) (dkAt dk_L_act_2 20 rfl) 205 rfl ?_
            refine x_iconst C (v := (1 : Int32)) (by decide) (dkAt dk_L_act_2 21 rfl) 206 rfl ?_
            obtain ⟨hc, hf⟩ := if_some hf
            obtain ⟨v22, M23, h24, hf⟩ := cl_inv hf
            refine x_cVi C (c_X13_next hL hX h24) mw_X13_next ln_RL_195 mi_X13_next (show RC _ 108 RX13 from ⟨13, 2, _, (hL.2.1 108 (19, 2) rfl), rc13, rfl⟩) (ro_c (k := 0) (by decide) (by decide) hc (Nat.zero_le _)) rfl rfl (Nat.le_of_ble_eq_true rfl) (dkAt dk_L_act_2 22 rfl) 209 rfl _ _ rfl rfl ?_
            change G Γ X M23 c (6 * c) [some (.ref (wad Γ 0)), some (.ref (wad Γ 109)), some (.ref (wad Γ 108)), some (.int v1), some (.int v5), some (.int v9)] [.int v22] 209
            refine x_join hf (fun t25 => G Γ X M23 c (6 * c) [some (.ref (wad Γ 0)), some (.ref (wad Γ 109)), none, none, some (.int v5), some (.int v9)] [.int t25] 217) (fun t25 hf => ?_) (fun j45 hj45 hf => ?_)
            · refine x_istore C (L1 := [some (.ref (wad Γ 0)), some (.ref (wad Γ 109)), none, none, some (.int v5), some (.int v9), some (.int t25)]) (dkAt dk_L_act_2 27 rfl) 219 rfl (by decide) rfl ?_
              refine x_aload_n C rfl rfl (dkAt dk_L_act_2 28 rfl) 220 rfl ?_
              refine x_getSn C nlk_RL_176 (hL.2.1 109 (18, 17) rfl) (hL.2.2.2 109 13 201 rfl) (dkAt dk_L_act_2 29 rfl) 223 rfl ?_
              refine x_iload C rfl (dkAt dk_L_act_2 30 rfl) 225 rfl ?_
              refine x_qald C (k9 := 3) (n := 6) (by decide) (by decide) (hL.2.1 201 (5, 3006) rfl) (dkAt dk_L_act_2 31 rfl) 226 rfl hf (fun o26 h_o26 hf => ?_)
              refine x_iload C rfl (dkAt dk_L_act_2 32 rfl) 228 rfl ?_
              refine x_zald C (hL.2.2.1 _ _ h_o26) (dkAt dk_L_act_2 33 rfl) 229 rfl hf (fun v27 hf => ?_)
              refine x_istore C (L1 := [some (.ref (wad Γ 0)), some (.ref (wad Γ 109)), none, none, some (.int v5), some (.int v9), some (.int t25), some (.int v27)]) (dkAt dk_L_act_2 34 rfl) 231 rfl (by decide) rfl ?_
              refine x_iload C rfl (dkAt dk_L_act_2 35 rfl) 233 rfl ?_
              refine x_istore C (L1 := [some (.ref (wad Γ 0)), some (.ref (wad Γ 109)), none, none, some (.int v5), some (.int v9), some (.int t25), some (.int v27), some (.int t25)]) (dkAt dk_L_act_2 36 rfl) 235 rfl (by decide) rfl ?_
              refine x_iconst C (v := (0 : Int32)) (by decide) (dkAt dk_L_act_2 37 rfl) 236 rfl ?_
              refine x_istore C (L1 := [some (.ref (wad Γ 0)), some (.ref (wad Γ 109)), none, none, some (.int v5), some (.int v9), some (.int t25), some (.int v27), some (.int t25), some (.int (0 : Int32))]) (dkAt dk_L_act_2 38 rfl) 238 rfl (by decide) rfl ?_
              refine G.weak (L := [some (.ref (wad Γ 0)), some (.ref (wad Γ 109)), none, none, some (.int v5), some (.int v9), some (.int t25), some (.int v27), some (.int t25), some (.int (0 : Int32))]) ⟨rfl, rfl, rfl, rfl, rfl, rfl, rfl, rfl, trivial⟩ ?_
              refine l_L_act_L238 hN hC hF hL hX C E ?_ Z _ _ hf
              intro y37 hf
              refine x_iload C rfl (dkAt dk_L_act_3 15 rfl) 288 rfl ?_
              refine x_if_ne C 312 (dkAt dk_L_act_3 16 rfl) 291 rfl (by decide) hf (fun hf => ?_) (fun hf => ?_)
              · refine x_aload_n C rfl rfl (dkAt dk_L_act_3 29 rfl) 313 rfl ?_
                refine x_getSn C nlk_RL_176 (hL.2.1 109 (18, 17) rfl) (hL.2.2.2 109 13 201 rfl) (dkAt dk_L_act_3 30 rfl) 316 rfl ?_
                refine x_iload C rfl (dkAt dk_L_act_3 31 rfl) 318 rfl ?_
                refine x_qald C (k9 := 3) (n := 6) (by decide) (by decide) (hL.2.1 201 (5, 3006) rfl) (dkAt dk_L_act_3 32 rfl) 319 rfl hf (fun o38 h_o38 hf => ?_)
                refine x_iload C rfl (dkAt dk_L_act_3 33 rfl) 321 rfl ?_
                refine x_iload C rfl (dkAt dk_L_act_3 34 rfl) 323 rfl ?_
                refine x_zast C (hL.2.2.1 _ _ h_o38) (dkAt dk_L_act_3 35 rfl) 324 rfl hf (fun M39 hf => ?_)
                refine x_aload_n C rfl rfl (dkAt dk_L_act_3 36 rfl) 325 rfl ?_
                refine x_iload C rfl (dkAt dk_L_act_3 37 rfl) 327 rfl ?_
                refine x_iload C rfl (dkAt dk_L_act_3 38 rfl) 329 rfl ?_
                refine x_iload C rfl (dkAt dk_L_act_3 39 rfl) 331 rfl ?_
                obtain ⟨hc, hf⟩ := if_some hf
                refine h_cVi C hf (fun r hr => c_X11_permit hN hr) mw_X11_permit ln_RL_96 mi_X11_permit (hN.rc (ci := 11) sh0 rc11) (ro_c (k := 4) (by decide) (by decide) hc (by decide)) rfl rfl (Nat.le_of_ble_eq_true rfl) (dkAt dk_L_act_3 40 rfl) 334 rfl (c + 4) (6 * (c + 4)) rfl (by show 6 * c + 24 = _; omega) (fun v40 M41 hf => ?_) (fun _ _ h => nomatch h)
                refine x_iload C rfl (dkAt dk_L_act_3 41 rfl) 336 rfl ?_
                refine x_icmp_ne C 343 (dkAt dk_L_act_3 42 rfl) 339 rfl (by decide) hf (fun hf => ?_) (fun hf => ?_)
                · refine x_iconst C (v := (0 : Int32)) (by decide) (dkAt dk_L_act_3 45 rfl) 344 rfl ?_
                  exact nomatch hf
                · refine x_iconst C (v := (1 : Int32)) (by decide) (dkAt dk_L_act_3 43 rfl) 340 rfl ?_
                  refine x_goto C 344 (dkAt dk_L_act_3 44 rfl) (by decide) ?_
                  obtain ⟨hc9, hf⟩ := if_some hf
                  exact hend _ _ _ _ (dkAt dk_L_act_3 46 rfl) hc9 hf
              · refine x_aload_n C rfl rfl (dkAt dk_L_act_3 17 rfl) 292 rfl ?_
                refine x_bipush C (v := (19 : Int32)) (by decide) (dkAt dk_L_act_3 18 rfl) 294 rfl ?_
                refine x_iload C rfl (dkAt dk_L_act_3 19 rfl) 296 rfl ?_
                refine x_iload C rfl (dkAt dk_L_act_3 20 rfl) 298 rfl ?_
                refine x_iconst C (v := (0 : Int32)) (by decide) (dkAt dk_L_act_3 21 rfl) 299 rfl ?_
                obtain ⟨hc, hf⟩ := if_some hf
                obtain ⟨v42, M43, h44, hf⟩ := cl_inv hf
                refine x_cW C (c_L_thrown_19 hN hC (by decide) h44) mww_L_thrown ln_RL_191 (ro_c (k := 4) (by decide) (by decide) hc (by decide)) rfl rfl (Nat.le_of_ble_eq_true rfl) (dkAt dk_L_act_3 22 rfl) 302 rfl (c + 4) (6 * (c + 4)) rfl (by show 6 * c + 24 = _; omega) ?_
                refine x_iconst C (v := (3 : Int32)) (by decide) (dkAt dk_L_act_3 23 rfl) 303 rfl ?_
                refine x_icmp_ne C 310 (dkAt dk_L_act_3 24 rfl) 306 rfl (by decide) hf (fun hf => ?_) (fun hf => ?_)
                · refine x_iconst C (v := (0 : Int32)) (by decide) (dkAt dk_L_act_3 27 rfl) 311 rfl ?_
                  exact nomatch hf
                · refine x_iconst C (v := (1 : Int32)) (by decide) (dkAt dk_L_act_3 25 rfl) 307 rfl ?_
                  refine x_goto C 311 (dkAt dk_L_act_3 26 rfl) (by decide) ?_
                  obtain ⟨hc9, hf⟩ := if_some hf
                  exact hend _ _ _ _ (dkAt dk_L_act_3 28 rfl) hc9 hf
            · refine x_if_ne C 216 (dkAt dk_L_act_2 23 rfl) 212 rfl (by decide) hf (fun hf => ?_) (fun hf => ?_)
              · refine x_iconst C (v := (0 : Int32)) (by decide) (dkAt dk_L_act_2 26 rfl) 217 rfl ?_
                exact G.weak (L := [some (.ref (wad Γ 0)), some (.ref (wad Γ 109)), none, none, some (.int v5), some (.int v9)]) ⟨rfl, rfl, rfl, rfl, trivial⟩ (hj45 _ hf)
              · refine x_iconst C (v := (1 : Int32)) (by decide) (dkAt dk_L_act_2 24 rfl) 213 rfl ?_
                refine x_goto C 217 (dkAt dk_L_act_2 25 rfl) (by decide) ?_
                exact G.weak (L := [some (.ref (wad Γ 0)), some (.ref (wad Γ 109)), none, none, some (.int v5), some (.int v9)]) ⟨rfl, rfl, rfl, rfl, trivial⟩ (hj45 _ hf)
        · refine x_aload_n C rfl rfl (dkAt dk_L_act_1 45 rfl) 164 rfl ?_
          refine x_getIn C nlk_RL_146 (hL.2.1 109 (18, 17) rfl) (dkAt dk_L_act_1 46 rfl) 167 rfl hf (fun v46 hf => ?_)
          refine x_istore C (L1 := [some (.ref (wad Γ 0)), some (.ref (wad Γ 109)), some (.ref (wad Γ 108)), some (.int v1), some (.int v5), some (.int v9), some (.int v46)]) (dkAt dk_L_act_1 47 rfl) 169 rfl (by decide) rfl ?_
          refine x_aload_n C rfl rfl (dkAt dk_L_act_2 0 rfl) 170 rfl ?_
          refine x_aload_n C rfl rfl (dkAt dk_L_act_2 1 rfl) 171 rfl ?_
          refine x_iconst C (v := (1 : Int32)) (by decide) (dkAt dk_L_act_2 2 rfl) 172 rfl ?_
          refine x_iconst C (v := (4 : Int32)) (by decide) (dkAt dk_L_act_2 3 rfl) 173 rfl ?_
          obtain ⟨hc, hf⟩ := if_some hf
          obtain ⟨v47, M48, h49, hf⟩ := cl_inv hf
          refine x_cVi C (c_X13_next hL hX h49) mw_X13_next ln_RL_195 mi_X13_next (show RC _ 108 RX13 from ⟨13, 2, _, (hL.2.1 108 (19, 2) rfl), rc13, rfl⟩) (ro_c (k := 0) (by decide) (by decide) hc (Nat.zero_le _)) rfl rfl (Nat.le_of_ble_eq_true rfl) (dkAt dk_L_act_2 4 rfl) 176 rfl _ _ rfl rfl ?_
          change G Γ X M48 c (6 * c) [some (.ref (wad Γ 0)), some (.ref (wad Γ 109)), some (.ref (wad Γ 108)), some (.int v1), some (.int v5), some (.int v9), some (.int v46)] [.int v47, .ref (wad Γ 109)] 176
          refine x_putIn C npk_RL_146 ⟨_, rfl⟩ (hL.2.1 109 (18, 17) rfl) (dkAt dk_L_act_2 5 rfl) 179 rfl hf (fun M50 hf => ?_)
          refine x_aload_n C rfl rfl (dkAt dk_L_act_2 6 rfl) 180 rfl ?_
          refine x_aload_n C rfl rfl (dkAt dk_L_act_2 7 rfl) 181 rfl ?_
          refine x_getIn C nlk_RL_146 (hL.2.1 109 (18, 17) rfl) (dkAt dk_L_act_2 8 rfl) 184 rfl hf (fun v51 hf => ?_)
          obtain ⟨hc, hf⟩ := if_some hf
          refine h_cVi C hf (fun r hr => c_X11_setHorizon hN hr) mw_X11_setHorizon ln_RL_103 mi_X11_setHorizon (hN.rc (ci := 11) sh0 rc11) (ro_c (k := 2) (by decide) (by decide) hc (by decide)) rfl rfl (Nat.le_of_ble_eq_true rfl) (dkAt dk_L_act_2 9 rfl) 187 rfl (c + 2) (6 * (c + 2)) rfl (by show 6 * c + 12 = _; omega) (fun v52 M53 hf => ?_) (fun _ _ h => nomatch h)
          refine x_iload C rfl (dkAt dk_L_act_2 10 rfl) 189 rfl ?_
          refine x_icmp_ne C 196 (dkAt dk_L_act_2 11 rfl) 192 rfl (by decide) hf (fun hf => ?_) (fun hf => ?_)
          · refine x_iconst C (v := (0 : Int32)) (by decide) (dkAt dk_L_act_2 14 rfl) 197 rfl ?_
            exact nomatch hf
          · refine x_iconst C (v := (1 : Int32)) (by decide) (dkAt dk_L_act_2 12 rfl) 193 rfl ?_
            refine x_goto C 197 (dkAt dk_L_act_2 13 rfl) (by decide) ?_
            obtain ⟨hc9, hf⟩ := if_some hf
            exact hend _ _ _ _ (dkAt dk_L_act_2 15 rfl) hc9 hf
      · refine x_aload_n C rfl rfl (dkAt dk_L_act_1 27 rfl) 130 rfl ?_
        refine x_getIn C nlk_RL_153 (hL.2.1 109 (18, 17) rfl) (dkAt dk_L_act_1 28 rfl) 133 rfl hf (fun v54 hf => ?_)
        refine x_istore C (L1 := [some (.ref (wad Γ 0)), some (.ref (wad Γ 109)), some (.ref (wad Γ 108)), some (.int v1), some (.int v5), some (.int v9), some (.int v54)]) (dkAt dk_L_act_1 29 rfl) 135 rfl (by decide) rfl ?_
        refine x_aload_n C rfl rfl (dkAt dk_L_act_1 30 rfl) 136 rfl ?_
        refine x_iload C rfl (dkAt dk_L_act_1 31 rfl) 138 rfl ?_
        refine x_putIn C npk_RL_153 ⟨_, rfl⟩ (hL.2.1 109 (18, 17) rfl) (dkAt dk_L_act_1 32 rfl) 141 rfl hf (fun M55 hf => ?_)
        refine x_aload_n C rfl rfl (dkAt dk_L_act_1 33 rfl) 142 rfl ?_
        refine x_iload C rfl (dkAt dk_L_act_1 34 rfl) 144 rfl ?_
        obtain ⟨hc, hf⟩ := if_some hf
        refine h_cVi C hf (fun r hr => c_X11_setStart hN hr) mw_X11_setStart ln_RL_207 mi_X11_setStart (hN.rc (ci := 11) sh0 rc11) (ro_c (k := 2) (by decide) (by decide) hc (by decide)) rfl rfl (Nat.le_of_ble_eq_true rfl) (dkAt dk_L_act_1 35 rfl) 147 rfl (c + 2) (6 * (c + 2)) rfl (by show 6 * c + 12 = _; omega) (fun v56 M57 hf => ?_) (fun _ _ h => nomatch h)
        refine x_iload C rfl (dkAt dk_L_act_1 36 rfl) 149 rfl ?_
        refine x_icmp_ne C 156 (dkAt dk_L_act_1 37 rfl) 152 rfl (by decide) hf (fun hf => ?_) (fun hf => ?_)
        · refine x_iconst C (v := (0 : Int32)) (by decide) (dkAt dk_L_act_1 40 rfl) 157 rfl ?_
          exact nomatch hf
        · refine x_iconst C (v := (1 : Int32)) (by decide) (dkAt dk_L_act_1 38 rfl) 153 rfl ?_
          refine x_goto C 157 (dkAt dk_L_act_1 39 rfl) (by decide) ?_
          obtain ⟨hc9, hf⟩ := if_some hf
          exact hend _ _ _ _ (dkAt dk_L_act_1 41 rfl) hc9 hf
    · refine x_icmp_ne C 124 (dkAt dk_L_act_0 34 rfl) 56 rfl (by decide) hf (fun hf => ?_) (fun hf => ?_)
      · exact G.weak (L := [some (.ref (wad Γ 0)), some (.ref (wad Γ 109)), some (.ref (wad Γ 108)), some (.int v1), some (.int v5), some (.int v9)]) ⟨rfl, rfl, rfl, rfl, rfl, rfl, trivial⟩ (hj58 _ hf)
      · refine x_aload_n C rfl rfl (dkAt dk_L_act_0 35 rfl) 57 rfl ?_
        refine x_getIn C nlk_RL_141 (hL.2.1 109 (18, 17) rfl) (dkAt dk_L_act_0 36 rfl) 60 rfl hf (fun v59 hf => ?_)
        refine x_if_le C 124 (dkAt dk_L_act_0 37 rfl) 63 rfl (by decide) hf (fun hf => ?_) (fun hf => ?_)
        · exact G.weak (L := [some (.ref (wad Γ 0)), some (.ref (wad Γ 109)), some (.ref (wad Γ 108)), some (.int v1), some (.int v5), some (.int v9)]) ⟨rfl, rfl, rfl, rfl, rfl, rfl, trivial⟩ (hj58 _ hf)
        · refine x_aload_n C rfl rfl (dkAt dk_L_act_0 38 rfl) 64 rfl ?_
          refine x_iconst C (v := (0 : Int32)) (by decide) (dkAt dk_L_act_0 39 rfl) 65 rfl ?_
          refine x_aload_n C rfl rfl (dkAt dk_L_act_0 40 rfl) 66 rfl ?_
          refine x_getIn C nlk_RL_141 (hL.2.1 109 (18, 17) rfl) (dkAt dk_L_act_0 41 rfl) 69 rfl hf (fun v60 hf => ?_)
          refine x_iconst C (v := (1 : Int32)) (by decide) (dkAt dk_L_act_0 42 rfl) 70 rfl ?_
          refine x_isub C (dkAt dk_L_act_0 43 rfl) 71 rfl ?_
          obtain ⟨hc, hf⟩ := if_some hf
          obtain ⟨v61, M62, h63, hf⟩ := cl_inv hf
          refine x_cVi C (c_X13_next hL hX h63) mw_X13_next ln_RL_195 mi_X13_next (show RC _ 108 RX13 from ⟨13, 2, _, (hL.2.1 108 (19, 2) rfl), rc13, rfl⟩) (ro_c (k := 0) (by decide) (by decide) hc (Nat.zero_le _)) rfl rfl (Nat.le_of_ble_eq_true rfl) (dkAt dk_L_act_0 44 rfl) 74 rfl _ _ rfl rfl ?_
          change G Γ X M62 c (6 * c) [some (.ref (wad Γ 0)), some (.ref (wad Γ 109)), some (.ref (wad Γ 108)), some (.int v1), some (.int v5), some (.int v9)] [.int v61] 74
          refine x_istore C (L1 := [some (.ref (wad Γ 0)), some (.ref (wad Γ 109)), some (.ref (wad Γ 108)), some (.int v1), some (.int v5), some (.int v9), some (.int v61)]) (dkAt dk_L_act_0 45 rfl) 76 rfl (by decide) rfl ?_
          refine x_aload_n C rfl rfl (dkAt dk_L_act_0 46 rfl) 77 rfl ?_
          refine x_getSn C nlk_RL_155 (hL.2.1 109 (18, 17) rfl) (hL.2.2.2 109 6 110 rfl) (dkAt dk_L_act_0 47 rfl) 80 rfl ?_
          refine x_iload C rfl (dkAt dk_L_act_1 0 rfl) 82 rfl ?_
          refine x_iald C (hL.2.1 110 (0, 3) rfl) (dkAt dk_L_act_1 1 rfl) 83 rfl hf (fun v64 hf => ?_)
          refine x_istore C (L1 := [some (.ref (wad Γ 0)), some (.ref (wad Γ 109)), some (.ref (wad Γ 108)), some (.int v1), some (.int v5), some (.int v9), some (.int v61), some (.int v64)]) (dkAt dk_L_act_1 2 rfl) 85 rfl (by decide) rfl ?_
          refine x_aload_n C rfl rfl (dkAt dk_L_act_1 3 rfl) 86 rfl ?_
          refine x_getSn C nlk_RL_155 (hL.2.1 109 (18, 17) rfl) (hL.2.2.2 109 6 110 rfl) (dkAt dk_L_act_1 4 rfl) 89 rfl ?_
          refine x_iload C rfl (dkAt dk_L_act_1 5 rfl) 91 rfl ?_
          refine x_aload_n C rfl rfl (dkAt dk_L_act_1 6 rfl) 92 rfl ?_
          refine x_iconst C (v := (0 : Int32)) (by decide) (dkAt dk_L_act_1 7 rfl) 93 rfl ?_
          refine x_sipush C (v := (200 : Int32)) (by decide) (dkAt dk_L_act_1 8 rfl) 96 rfl ?_
          obtain ⟨hc, hf⟩ := if_some hf
          obtain ⟨v65, M66, h67, hf⟩ := cl_inv hf
          refine x_cVi C (c_X13_next hL hX h67) mw_X13_next ln_RL_195 mi_X13_next (show RC _ 108 RX13 from ⟨13, 2, _, (hL.2.1 108 (19, 2) rfl), rc13, rfl⟩) (ro_c (k := 0) (by decide) (by decide) hc (Nat.zero_le _)) rfl rfl (Nat.le_of_ble_eq_true rfl) (dkAt dk_L_act_1 9 rfl) 99 rfl _ _ rfl rfl ?_
          change G Γ X M66 c (6 * c) [some (.ref (wad Γ 0)), some (.ref (wad Γ 109)), some (.ref (wad Γ 108)), some (.int v1), some (.int v5), some (.int v9), some (.int v61), some (.int v64)] [.int v65, .int v61, .ref (wad Γ 110)] 99
          refine x_iast C (hL.2.1 110 (0, 3) rfl) (dkAt dk_L_act_1 10 rfl) 100 rfl hf (fun M68 hf => ?_)
          refine x_aload_n C rfl rfl (dkAt dk_L_act_1 11 rfl) 101 rfl ?_
          refine x_iload C rfl (dkAt dk_L_act_1 12 rfl) 103 rfl ?_
          refine x_aload_n C rfl rfl (dkAt dk_L_act_1 13 rfl) 104 rfl ?_
          refine x_getSn C nlk_RL_155 (hL.2.1 109 (18, 17) rfl) (hL.2.2.2 109 6 110 rfl) (dkAt dk_L_act_1 14 rfl) 107 rfl ?_
          refine x_iload C rfl (dkAt dk_L_act_1 15 rfl) 109 rfl ?_
          refine x_iald C (hL.2.1 110 (0, 3) rfl) (dkAt dk_L_act_1 16 rfl) 110 rfl hf (fun v69 hf => ?_)
          obtain ⟨hc, hf⟩ := if_some hf
          refine h_cVi C hf (fun r hr => c_X11_setLimit hN hr) mw_X11_setLimit ln_RL_100 mi_X11_setLimit (hN.rc (ci := 11) sh0 rc11) (ro_c (k := 3) (by decide) (by decide) hc (by decide)) rfl rfl (Nat.le_of_ble_eq_true rfl) (dkAt dk_L_act_1 17 rfl) 113 rfl (c + 3) (6 * (c + 3)) rfl (by show 6 * c + 18 = _; omega) (fun v70 M71 hf => ?_) (fun _ _ h => nomatch h)
          refine x_iload C rfl (dkAt dk_L_act_1 18 rfl) 115 rfl ?_
          refine x_icmp_ne C 122 (dkAt dk_L_act_1 19 rfl) 118 rfl (by decide) hf (fun hf => ?_) (fun hf => ?_)
          · refine x_iconst C (v := (0 : Int32)) (by decide) (dkAt dk_L_act_1 22 rfl) 123 rfl ?_
            exact nomatch hf
          · refine x_iconst C (v := (1 : Int32)) (by decide) (dkAt dk_L_act_1 20 rfl) 119 rfl ?_
            refine x_goto C 123 (dkAt dk_L_act_1 21 rfl) (by decide) ?_
            obtain ⟨hc9, hf⟩ := if_some hf
            exact hend _ _ _ _ (dkAt dk_L_act_1 23 rfl) hc9 hf
  · refine x_aload_n C rfl rfl (dkAt dk_L_act_0 26 rfl) 43 rfl ?_
    refine x_aload_n C rfl rfl (dkAt dk_L_act_0 27 rfl) 44 rfl ?_
    refine x_aload_n C rfl rfl (dkAt dk_L_act_0 28 rfl) 45 rfl ?_
    refine x_iload C rfl (dkAt dk_L_act_0 29 rfl) 47 rfl ?_
    exact G.weak (L := []) trivial (hkq _ _ _ hf)
noncomputable def f_L_act (b Z LX : Nat) (xs : Nat → Int32) (M : Mem) : Option (Nat × Mem) := f_L_act_s (shB b) Z LX xs (fun v M1 c1 => if c1 + 30 ≤ 80 then cl (f_L_rules b Z LX xs M1 v) (fun _ M2 => some (b + 1, M2)) else none) (fun M1 => some (b, M1)) M 0
set_option maxRecDepth 100000 in
theorem c_L_act {Γ : WC} (hT : HT Γ) (hQ : HQ Γ) (hC : NC Γ) {b9 LX : Nat} {xs : Nat → Int32} (hX : HX0 Γ b9 LX xs) {b Z : Nat} (hb1 : 214 ≤ b) (hb2 : b < 300) {M : Mem} {rM : Nat × Mem} (hf : f_L_act b Z LX xs M = some rM) : CtX Γ b9 (KB b) (KB rM.1) yL_act cL_act 10 (some .boolean) (rmL 60 80 (6 * 80)) (lB b) (lB rM.1) [.inr 0, .inr 109, .inr 108] M (some (.inl (.int 1))) rM.2 := by
  refine mkX hT.1 (own := RL) rfl (by decide) (fun _ => Nat.le_of_ble_eq_true rfl) (fun ad X hb C _ E => ?_)
  change G (gc Γ (KB b) ad (lB b)) X M 0 (6 * 0) [some (.ref (ad 0)), some (.ref (ad 109)), some (.ref (ad 108))] [] 0
  refine s_L_act_s (hN4 hT (by omega) (by omega) ad) hC (hF4 (by omega) (by omega) ad) (hL4 hT (by omega) ad) (hXV hX hb) (C.gc (krB b) ad (lB b)) trivial (fun v Mx cx hf => ?_) (fun pc Mx cx Lx d hc9 hf => ?_) hf
  · obtain ⟨hc, hf⟩ := if_some hf
    obtain ⟨u, M2, h, hf⟩ := cl_inv hf
    cases hf
    refine d_cSX C (c_L_rules hT hQ hC hX h) hb mw_L_rules ln_RL_203 ms_L_rules (ro_c (k := 30) (by decide) (by decide) hc (by decide)) rfl agr.rfl (fun _ h => h) (L := []) (st := []) rfl rfl (fun v hv => nomatch hv) (fun v hv => nomatch hv) (Nat.le_of_ble_eq_true rfl) (dkAt dk_L_act_0 30 rfl) 50 rfl rfl rfl (fun hK ad1 hag => ?_)
    exact d_iret C E hag rfl (fun h => h) hc (by show 6 * cx + 6 * 30 ≤ 6 * 80; omega) (dkAt dk_L_act_0 31 rfl)
  · cases hf
    exact d_iret C E agr.rfl rfl (fun h => h) hc9 (Nat.mul_le_mul_left _ hc9) d
