def f_X4_parsePercents_L5 (Z : Nat) (p0 : Int32) (k0 : Int32 → Mem → Option (Int32 × Mem)) (k1 : Mem → Option (Int32 × Mem)) : Nat → Int32 → Int32 → Mem → Option (Int32 × Mem)
  | 0, _, _, _ => none
  | n + 1, x1, x2, M3 => (if (6 : Int32) < x2 then k0 x1 M3 else cl (f_X2_isWord Z M3 7) (fun v4 M5 => (if v4 = 0 then k0 x1 M5 else cl (f_X2_advance Z M5) (fun v6 M7 => cl (f_X4_seeState Z M7) (fun v8 M9 => (if v8 = 0 then some ((0 : Int32), M9) else bd (gI M9 (21) 5) (fun v10 => cl (f_X0_percentTo Z M9 (22) p0 v10) (fun v11 M12 => (if v11 = 0 then cl (f_X2_advance Z M12) (fun v13 M14 => cl (f_X4_takeNumber Z M14 (1 : Int32) x1) (fun v15 M16 => (if v15 = 0 then some ((0 : Int32), M16) else bd (gI M16 (21) 5) (fun v17 => cl (f_X0_tell Z M16 (22) p0 v10 v17) (fun v18 M19 => bd (gI M19 (21) 5) (fun v20 => f_X4_parsePercents_L5 Z p0 k0 k1 n (x1 - v20) (x2 + (1 : Int32)) M19)))))) else k1 M12)))))))))
def f_X4_parsePercents (Z : Nat) (M : Mem) (p0 : Int32) : Option (Int32 × Mem) :=
  f_X4_parsePercents_L5 Z p0 (fun (y28 : Int32) (M29 : Mem) => cl (f_X4_endLine Z M29 y28) (fun v30 M31 => (if v30 &&& 1 = v30 then some (v30, M31) else none))) (fun (M33 : Mem) => cl (f_X4_fail Z M33 (3 : Int32)) (fun v34 M35 => (if v34 &&& 1 = v34 then some (v34, M35) else none))) Z (100 : Int32) (0 : Int32) M
set_option maxRecDepth 100000 in
theorem l_X4_parsePercents_L5 {Γ : WC} {X : MX} (hN : HN Γ) (C : CX Γ X cX4_parsePercents 5 RX4 (some .boolean) (rmL 7 0 0)) {rM : Int32 × Mem} (E : EndN Γ X (some (.int rM.1)) rM.2 0 0) {Z : Nat} {p0 : Int32} {k0 : Int32 → Mem → Option (Int32 × Mem)} {k1 : Mem → Option (Int32 × Mem)} (hk0 : ∀ (a2 : Int32) (Mx : Mem), k0 a2 Mx = some rM → G Γ X Mx 0 0 [some (.ref (wad Γ 21)), none, some (.int a2)] [] 109) (hk1 : ∀  (Mx : Mem), k1 Mx = some rM → G Γ X Mx 0 0 [some (.ref (wad Γ 21))] [] 58) : ∀ (n : Nat) (x1 : Int32) (x2 : Int32) (M3 : Mem), f_X4_parsePercents_L5 Z p0 k0 k1 n x1 x2 M3 = some rM → G Γ X M3 0 0 [some (.ref (wad Γ 21)), some (.int p0), some (.int x1), some (.int x2)] [] 5 := by
  intro n
  induction n with
  | zero =>
    intro x1 x2 M3 hf
    have hf0 : (none : Option _) = some rM := hf
    cases hf0
  | succ n ih =>
    intro x1 x2 M3 hf
    rw [f_X4_parsePercents_L5] at hf
    refine x_iload_n C rfl rfl (dkAt dk_X4_parsePercents 4 rfl) 6 rfl ?_
    refine x_bipush C (v := (6 : Int32)) (by decide) (dkAt dk_X4_parsePercents 5 rfl) 8 rfl ?_
    refine x_icmp_gt C 109 (dkAt dk_X4_parsePercents 6 rfl) 11 rfl (by decide) hf (fun hf => ?_) (fun hf => ?_)
    · exact G.weak (L := [some (.ref (wad Γ 21)), none, some (.int x1)]) ⟨rfl, rfl, trivial⟩ (hk0 _ _ hf)
    · refine x_aload_n C rfl rfl (dkAt dk_X4_parsePercents 7 rfl) 12 rfl ?_
      refine x_getS C lk_RX4_29 (hN.sh sh21) (hN.sr sr21_4) (dkAt dk_X4_parsePercents 8 rfl) 15 rfl ?_
      refine x_ldcS C (hN.st (i := 19) rfl) (dkAt dk_X4_parsePercents 9 rfl) 17 rfl ?_
      obtain ⟨v4, M5, h27, hf⟩ := cl_inv hf
      refine x_cVi C (c_X2_isWord hN (by decide) h27) mw_X2_isWord ln_RX4_72 mi_X2_isWord (hN.rc (ci := 2) sh1 rc2) (ro_of (by decide) (by decide) (by decide) (by decide)) rfl rfl (Nat.le_of_ble_eq_true rfl) (dkAt dk_X4_parsePercents 10 rfl) 20 rfl 0 0 rfl rfl ?_
      refine x_if_eq C 109 (dkAt dk_X4_parsePercents 11 rfl) 23 rfl (by decide) hf (fun hf => ?_) (fun hf => ?_)
      · exact G.weak (L := [some (.ref (wad Γ 21)), none, some (.int x1)]) ⟨rfl, rfl, trivial⟩ (hk0 _ _ hf)
      · refine x_aload_n C rfl rfl (dkAt dk_X4_parsePercents 12 rfl) 24 rfl ?_
        refine x_getS C lk_RX4_29 (hN.sh sh21) (hN.sr sr21_4) (dkAt dk_X4_parsePercents 13 rfl) 27 rfl ?_
        obtain ⟨v6, M7, h26, hf⟩ := cl_inv hf
        refine x_cVv C (c_X2_advance hN h26) mw_X2_advance ln_RX4_56 mi_X2_advance (hN.rc (ci := 2) sh1 rc2) (ro_of (by decide) (by decide) (by decide) (by decide)) rfl rfl (Nat.le_of_ble_eq_true rfl) (dkAt dk_X4_parsePercents 14 rfl) 30 rfl 0 0 rfl rfl ?_
        refine x_aload_n C rfl rfl (dkAt dk_X4_parsePercents 15 rfl) 31 rfl ?_
        obtain ⟨v8, M9, h25, hf⟩ := cl_inv hf
        refine x_cVi C (c_X4_seeState hN h25) mw_X4_seeState ln_RX4_132 mi_X4_seeState (hN.rc (ci := 4) sh21 rc4) (ro_of (by decide) (by decide) (by decide) (by decide)) rfl rfl (Nat.le_of_ble_eq_true rfl) (dkAt dk_X4_parsePercents 16 rfl) 34 rfl 0 0 rfl rfl ?_
        refine x_if_ne C 39 (dkAt dk_X4_parsePercents 17 rfl) 37 rfl (by decide) hf (fun hf => ?_) (fun hf => ?_)
        · refine x_aload_n C rfl rfl (dkAt dk_X4_parsePercents 20 rfl) 40 rfl ?_
          refine x_getI C lk_RX4_79 (hN.sh sh21) (dkAt dk_X4_parsePercents 21 rfl) 43 rfl hf (fun v10 hf => ?_)
          refine x_istore C (L1 := [some (.ref (wad Γ 21)), some (.int p0), some (.int x1), some (.int x2), some (.int v10)]) (dkAt dk_X4_parsePercents 22 rfl) 45 rfl (by decide) rfl ?_
          refine x_aload_n C rfl rfl (dkAt dk_X4_parsePercents 23 rfl) 46 rfl ?_
          refine x_getS C lk_RX4_12 (hN.sh sh21) (hN.sr sr21_0) (dkAt dk_X4_parsePercents 24 rfl) 49 rfl ?_
          refine x_iload_n C rfl rfl (dkAt dk_X4_parsePercents 25 rfl) 50 rfl ?_
          refine x_iload C rfl (dkAt dk_X4_parsePercents 26 rfl) 52 rfl ?_
          obtain ⟨v11, M12, h24, hf⟩ := cl_inv hf
          refine x_cVi C (c_X0_percentTo hN sh22 h24) mw_X0_percentTo ln_RX4_166 mi_X0_percentTo (hN.rc (ci := 0) sh22 rc0) (ro_of (by decide) (by decide) (by decide) (by decide)) rfl rfl (Nat.le_of_ble_eq_true rfl) (dkAt dk_X4_parsePercents 27 rfl) 55 rfl 0 0 rfl rfl ?_
          refine x_if_eq C 64 (dkAt dk_X4_parsePercents 28 rfl) 58 rfl (by decide) hf (fun hf => ?_) (fun hf => ?_)
          · refine x_aload_n C rfl rfl (dkAt dk_X4_parsePercents 33 rfl) 65 rfl ?_
            refine x_getS C lk_RX4_29 (hN.sh sh21) (hN.sr sr21_4) (dkAt dk_X4_parsePercents 34 rfl) 68 rfl ?_
            obtain ⟨v13, M14, h23, hf⟩ := cl_inv hf
            refine x_cVv C (c_X2_advance hN h23) mw_X2_advance ln_RX4_56 mi_X2_advance (hN.rc (ci := 2) sh1 rc2) (ro_of (by decide) (by decide) (by decide) (by decide)) rfl rfl (Nat.le_of_ble_eq_true rfl) (dkAt dk_X4_parsePercents 35 rfl) 71 rfl 0 0 rfl rfl ?_
            refine x_aload_n C rfl rfl (dkAt dk_X4_parsePercents 36 rfl) 72 rfl ?_
            refine x_iconst C (v := (1 : Int32)) (by decide) (dkAt dk_X4_parsePercents 37 rfl) 73 rfl ?_
            refine x_iload_n C rfl rfl (dkAt dk_X4_parsePercents 38 rfl) 74 rfl ?_
            obtain ⟨v15, M16, h22, hf⟩ := cl_inv hf
            refine x_cVi C (c_X4_takeNumber hN h22) mw_X4_takeNumber ln_RX4_94 mi_X4_takeNumber (hN.rc (ci := 4) sh21 rc4) (ro_of (by decide) (by decide) (by decide) (by decide)) rfl rfl (Nat.le_of_ble_eq_true rfl) (dkAt dk_X4_parsePercents 39 rfl) 77 rfl 0 0 rfl rfl ?_
            refine x_if_ne C 82 (dkAt dk_X4_parsePercents 40 rfl) 80 rfl (by decide) hf (fun hf => ?_) (fun hf => ?_)
            · refine x_aload_n C rfl rfl (dkAt dk_X4_parsePercents 43 rfl) 83 rfl ?_
              refine x_getS C lk_RX4_12 (hN.sh sh21) (hN.sr sr21_0) (dkAt dk_X4_parsePercents 44 rfl) 86 rfl ?_
              refine x_iload_n C rfl rfl (dkAt dk_X4_parsePercents 45 rfl) 87 rfl ?_
              refine x_iload C rfl (dkAt dk_X4_parsePercents 46 rfl) 89 rfl ?_
              refine x_aload_n C rfl rfl (dkAt dk_X4_parsePercents 47 rfl) 90 rfl ?_
              refine x_getI C lk_RX4_79 (hN.sh sh21) (dkAt dk_X4_parsePercents 48 rfl) 93 rfl hf (fun v17 hf => ?_)
              obtain ⟨v18, M19, h21, hf⟩ := cl_inv hf
              refine x_cVv C (c_X0_tell hN sh22 h21) mw_X0_tell ln_RX4_169 mi_X0_tell (hN.rc (ci := 0) sh22 rc0) (ro_of (by decide) (by decide) (by decide) (by decide)) rfl rfl (Nat.le_of_ble_eq_true rfl) (dkAt dk_X4_parsePercents 49 rfl) 96 rfl 0 0 rfl rfl ?_
              refine x_iload_n C rfl rfl (dkAt dk_X4_parsePercents 50 rfl) 97 rfl ?_
              refine x_aload_n C rfl rfl (dkAt dk_X4_parsePercents 51 rfl) 98 rfl ?_
              refine x_getI C lk_RX4_79 (hN.sh sh21) (dkAt dk_X4_parsePercents 52 rfl) 101 rfl hf (fun v20 hf => ?_)
              refine x_isub C (dkAt dk_X4_parsePercents 53 rfl) 102 rfl ?_
              refine x_istore_n C (L1 := [some (.ref (wad Γ 21)), some (.int p0), some (.int (x1 - v20)), some (.int x2), some (.int v10)]) (dkAt dk_X4_parsePercents 54 rfl) 103 rfl rfl (by decide) rfl ?_
              refine x_iinc C (v := (x2 + (1 : Int32))) (L1 := [some (.ref (wad Γ 21)), some (.int p0), some (.int (x1 - v20)), some (.int (x2 + (1 : Int32))), some (.int v10)]) (dkAt dk_X4_parsePercents 55 rfl) 106 rfl rfl rfl (by decide) rfl ?_
              refine x_goto C 5 (dkAt dk_X4_parsePercents 56 rfl) (by decide) ?_
              exact G.weak (L := [some (.ref (wad Γ 21)), some (.int p0), some (.int (x1 - v20)), some (.int (x2 + (1 : Int32)))]) ⟨rfl, rfl, rfl, rfl, trivial⟩ (ih _ _ _ hf)
            · refine x_iconst C (v := (0 : Int32)) (by decide) (dkAt dk_X4_parsePercents 41 rfl) 81 rfl ?_
              exact x_zret C E (by decide) hf (by decide) (by decide) (dkAt dk_X4_parsePercents 42 rfl)
          · exact G.weak (L := [some (.ref (wad Γ 21))]) ⟨rfl, trivial⟩ (hk1 _ hf)
        · refine x_iconst C (v := (0 : Int32)) (by decide) (dkAt dk_X4_parsePercents 18 rfl) 38 rfl ?_
          exact x_zret C E (by decide) hf (by decide) (by decide) (dkAt dk_X4_parsePercents 19 rfl)
set_option maxRecDepth 100000 in
theorem c_X4_parsePercents {Γ : WC} (hN : HN Γ) {Z : Nat} {M : Mem} {p0 : Int32} {rM : Int32 × Mem}  (hf : f_X4_parsePercents Z M p0 = some rM) : Ct Γ yX4_parsePercents cX4_parsePercents 5 (some .boolean) (rmL 7 0 0) [.ref (wad Γ 21), .int p0] M (some (.int rM.1)) rM.2 := by
  refine mkN hN.1 (own := RX4) rfl (by decide) (Nat.le_of_ble_eq_true rfl) (fun X C E => ?_)
  change G Γ X M 0 0 [some (.ref (wad Γ 21)), some (.int p0)] [] 0
  unfold f_X4_parsePercents at hf
  refine x_bipush C (v := (100 : Int32)) (by decide) (dkAt dk_X4_parsePercents 0 rfl) 2 rfl ?_
  refine x_istore_n C (L1 := [some (.ref (wad Γ 21)), some (.int p0), some (.int (100 : Int32))]) (dkAt dk_X4_parsePercents 1 rfl) 3 rfl rfl (by decide) rfl ?_
  refine x_iconst C (v := (0 : Int32)) (by decide) (dkAt dk_X4_parsePercents 2 rfl) 4 rfl ?_
  refine x_istore_n C (L1 := [some (.ref (wad Γ 21)), some (.int p0), some (.int (100 : Int32)), some (.int (0 : Int32))]) (dkAt dk_X4_parsePercents 3 rfl) 5 rfl rfl (by decide) rfl ?_
  refine G.weak (L := [some (.ref (wad Γ 21)), some (.int p0), some (.int (100 : Int32)), some (.int (0 : Int32))]) ⟨rfl, rfl, rfl, rfl, trivial⟩ ?_
  refine l_X4_parsePercents_L5 hN C E ?_ ?_ Z _ _ _ hf
  · intro y28 M29 hf
    refine x_aload_n C rfl rfl (dkAt dk_X4_parsePercents 57 rfl) 110 rfl ?_
    refine x_iload_n C rfl rfl (dkAt dk_X4_parsePercents 58 rfl) 111 rfl ?_
    obtain ⟨v30, M31, h32, hf⟩ := cl_inv hf
    refine x_cVi C (c_X4_endLine hN h32) mw_X4_endLine ln_RX4_173 mi_X4_endLine (hN.rc (ci := 4) sh21 rc4) (ro_of (by decide) (by decide) (by decide) (by decide)) rfl rfl (Nat.le_of_ble_eq_true rfl) (dkAt dk_X4_parsePercents 59 rfl) 114 rfl 0 0 rfl rfl ?_
    obtain ⟨hz, hf⟩ := if_some hf
    exact x_zret C E hz hf (by decide) (by decide) (dkAt dk_X4_parsePercents 60 rfl)
  · intro M33 hf
    refine x_aload_n C rfl rfl (dkAt dk_X4_parsePercents 29 rfl) 59 rfl ?_
    refine x_iconst C (v := (3 : Int32)) (by decide) (dkAt dk_X4_parsePercents 30 rfl) 60 rfl ?_
    obtain ⟨v34, M35, h36, hf⟩ := cl_inv hf
    refine x_cVi C (c_X4_fail hN h36) mw_X4_fail ln_RX4_65 mi_X4_fail (hN.rc (ci := 4) sh21 rc4) (ro_of (by decide) (by decide) (by decide) (by decide)) rfl rfl (Nat.le_of_ble_eq_true rfl) (dkAt dk_X4_parsePercents 31 rfl) 63 rfl 0 0 rfl rfl ?_
    obtain ⟨hz, hf⟩ := if_some hf
    exact x_zret C E hz hf (by decide) (by decide) (dkAt dk_X4_parsePercents 32 rfl)
def f_X4_parseAct (Z : Nat) (M : Mem)  : Option (Int32 × Mem) :=
  cl (f_X2_advance Z M) (fun v1 M2 => cl (f_X4_seeState Z M2) (fun v3 M4 => (if v3 = 0 then some ((0 : Int32), M4) else bd (gI M4 (21) 5) (fun v5 => rdI M4 23 6 v5 (fun v6 => (if v6 < (3 : Int32) then cl (f_X2_advance Z M4) (fun v7 M8 => rdI M8 23 6 v5 (fun v9 => cl (f_X11_rowOf Z M8 v5 v9) (fun v10 M11 => cl (f_X4_parseGain Z M11 v10) (fun v12 M13 => (if v12 = 0 then some ((0 : Int32), M13) else cl (f_X4_parseUses Z M13 v10) (fun v14 M15 => (if v14 = 0 then some ((0 : Int32), M15) else cl (f_X4_parsePercents Z M15 v10) (fun v16 M17 => (if v16 = 0 then some ((0 : Int32), M17) else rdI M17 23 6 v5 (fun v18 => wrI M17 23 6 v5 (v18 + (1 : Int32)) (fun M19 => some ((1 : Int32), M19)))))))))))) else cl (f_X4_fail Z M4 (4 : Int32)) (fun v25 M26 => (if v25 &&& 1 = v25 then some (v25, M26) else none))))))))
set_option maxRecDepth 100000 in
theorem c_X4_parseAct {Γ : WC} (hN : HN Γ) {Z : Nat} {M : Mem}  {rM : Int32 × Mem}  (hf : f_X4_parseAct Z M  = some rM) : Ct Γ yX4_parseAct cX4_parseAct 3 (some .boolean) (rmL 8 0 0) [.ref (wad Γ 21)] M (some (.int rM.1)) rM.2 := by
  refine mkN hN.1 (own := RX4) rfl (by decide) (Nat.le_of_ble_eq_true rfl) (fun X C E => ?_)
  change G Γ X M 0 0 [some (.ref (wad Γ 21))] [] 0
  unfold f_X4_parseAct at hf
  refine x_aload_n C rfl rfl (dkAt dk_X4_parseAct 0 rfl) 1 rfl ?_
  refine x_getS C lk_RX4_29 (hN.sh sh21) (hN.sr sr21_4) (dkAt dk_X4_parseAct 1 rfl) 4 rfl ?_
  obtain ⟨v1, M2, h29, hf⟩ := cl_inv hf
  refine x_cVv C (c_X2_advance hN h29) mw_X2_advance ln_RX4_56 mi_X2_advance (hN.rc (ci := 2) sh1 rc2) (ro_of (by decide) (by decide) (by decide) (by decide)) rfl rfl (Nat.le_of_ble_eq_true rfl) (dkAt dk_X4_parseAct 2 rfl) 7 rfl 0 0 rfl rfl ?_
  refine x_aload_n C rfl rfl (dkAt dk_X4_parseAct 3 rfl) 8 rfl ?_
  obtain ⟨v3, M4, h28, hf⟩ := cl_inv hf
  refine x_cVi C (c_X4_seeState hN h28) mw_X4_seeState ln_RX4_132 mi_X4_seeState (hN.rc (ci := 4) sh21 rc4) (ro_of (by decide) (by decide) (by decide) (by decide)) rfl rfl (Nat.le_of_ble_eq_true rfl) (dkAt dk_X4_parseAct 4 rfl) 11 rfl 0 0 rfl rfl ?_
  refine x_if_ne C 16 (dkAt dk_X4_parseAct 5 rfl) 14 rfl (by decide) hf (fun hf => ?_) (fun hf => ?_)
  · refine x_aload_n C rfl rfl (dkAt dk_X4_parseAct 8 rfl) 17 rfl ?_
    refine x_getI C lk_RX4_79 (hN.sh sh21) (dkAt dk_X4_parseAct 9 rfl) 20 rfl hf (fun v5 hf => ?_)
    refine x_istore_n C (L1 := [some (.ref (wad Γ 21)), some (.int v5)]) (dkAt dk_X4_parseAct 10 rfl) 21 rfl rfl (by decide) rfl ?_
    refine x_aload_n C rfl rfl (dkAt dk_X4_parseAct 11 rfl) 22 rfl ?_
    refine x_getS C lk_RX4_12 (hN.sh sh21) (hN.sr sr21_0) (dkAt dk_X4_parseAct 12 rfl) 25 rfl ?_
    refine x_getS C lk_RX4_137 (hN.sh sh22) (hN.sr sr22_2) (dkAt dk_X4_parseAct 13 rfl) 28 rfl ?_
    refine x_iload_n C rfl rfl (dkAt dk_X4_parseAct 14 rfl) 29 rfl ?_
    refine x_iald C (hN.sh sh23) (dkAt dk_X4_parseAct 15 rfl) 30 rfl hf (fun v6 hf => ?_)
    refine x_iconst C (v := (3 : Int32)) (by decide) (dkAt dk_X4_parseAct 16 rfl) 31 rfl ?_
    refine x_icmp_lt C 40 (dkAt dk_X4_parseAct 17 rfl) 34 rfl (by decide) hf (fun hf => ?_) (fun hf => ?_)
    · refine x_aload_n C rfl rfl (dkAt dk_X4_parseAct 22 rfl) 41 rfl ?_
      refine x_getS C lk_RX4_29 (hN.sh sh21) (hN.sr sr21_4) (dkAt dk_X4_parseAct 23 rfl) 44 rfl ?_
      obtain ⟨v7, M8, h24, hf⟩ := cl_inv hf
      refine x_cVv C (c_X2_advance hN h24) mw_X2_advance ln_RX4_56 mi_X2_advance (hN.rc (ci := 2) sh1 rc2) (ro_of (by decide) (by decide) (by decide) (by decide)) rfl rfl (Nat.le_of_ble_eq_true rfl) (dkAt dk_X4_parseAct 24 rfl) 47 rfl 0 0 rfl rfl ?_
      refine x_iload_n C rfl rfl (dkAt dk_X4_parseAct 25 rfl) 48 rfl ?_
      refine x_aload_n C rfl rfl (dkAt dk_X4_parseAct 26 rfl) 49 rfl ?_
      refine x_getS C lk_RX4_12 (hN.sh sh21) (hN.sr sr21_0) (dkAt dk_X4_parseAct 27 rfl) 52 rfl ?_
      refine x_getS C lk_RX4_137 (hN.sh sh22) (hN.sr sr22_2) (dkAt dk_X4_parseAct 28 rfl) 55 rfl ?_
      refine x_iload_n C rfl rfl (dkAt dk_X4_parseAct 29 rfl) 56 rfl ?_
      refine x_iald C (hN.sh sh23) (dkAt dk_X4_parseAct 30 rfl) 57 rfl hf (fun v9 hf => ?_)
      obtain ⟨v10, M11, h23, hf⟩ := cl_inv hf
      refine x_cNi C (c_X11_rowOf hN h23) mw_X11_rowOf ln_RX4_140 ms_X11_rowOf (ro_of (by decide) (by decide) (by decide) (by decide)) rfl rfl (Nat.le_of_ble_eq_true rfl) (dkAt dk_X4_parseAct 31 rfl) 60 rfl 0 0 rfl rfl ?_
      refine x_istore_n C (L1 := [some (.ref (wad Γ 21)), some (.int v5), some (.int v10)]) (dkAt dk_X4_parseAct 32 rfl) 61 rfl rfl (by decide) rfl ?_
      refine x_aload_n C rfl rfl (dkAt dk_X4_parseAct 33 rfl) 62 rfl ?_
      refine x_iload_n C rfl rfl (dkAt dk_X4_parseAct 34 rfl) 63 rfl ?_
      obtain ⟨v12, M13, h22, hf⟩ := cl_inv hf
      refine x_cVi C (c_X4_parseGain hN h22) mw_X4_parseGain ln_RX4_144 mi_X4_parseGain (hN.rc (ci := 4) sh21 rc4) (ro_of (by decide) (by decide) (by decide) (by decide)) rfl rfl (Nat.le_of_ble_eq_true rfl) (dkAt dk_X4_parseAct 35 rfl) 66 rfl 0 0 rfl rfl ?_
      refine x_if_eq C 85 (dkAt dk_X4_parseAct 36 rfl) 69 rfl (by decide) hf (fun hf => ?_) (fun hf => ?_)
      · refine x_iconst C (v := (0 : Int32)) (by decide) (dkAt dk_X4_parseAct 45 rfl) 86 rfl ?_
        exact x_zret C E (by decide) hf (by decide) (by decide) (dkAt dk_X4_parseAct 46 rfl)
      · refine x_aload_n C rfl rfl (dkAt dk_X4_parseAct 37 rfl) 70 rfl ?_
        refine x_iload_n C rfl rfl (dkAt dk_X4_parseAct 38 rfl) 71 rfl ?_
        obtain ⟨v14, M15, h21, hf⟩ := cl_inv hf
        refine x_cVi C (c_X4_parseUses hN h21) mw_X4_parseUses ln_RX4_147 mi_X4_parseUses (hN.rc (ci := 4) sh21 rc4) (ro_of (by decide) (by decide) (by decide) (by decide)) rfl rfl (Nat.le_of_ble_eq_true rfl) (dkAt dk_X4_parseAct 39 rfl) 74 rfl 0 0 rfl rfl ?_
        refine x_if_eq C 85 (dkAt dk_X4_parseAct 40 rfl) 77 rfl (by decide) hf (fun hf => ?_) (fun hf => ?_)
        · refine x_iconst C (v := (0 : Int32)) (by decide) (dkAt dk_X4_parseAct 45 rfl) 86 rfl ?_
          exact x_zret C E (by decide) hf (by decide) (by decide) (dkAt dk_X4_parseAct 46 rfl)
        · refine x_aload_n C rfl rfl (dkAt dk_X4_parseAct 41 rfl) 78 rfl ?_
          refine x_iload_n C rfl rfl (dkAt dk_X4_parseAct 42 rfl) 79 rfl ?_
          obtain ⟨v16, M17, h20, hf⟩ := cl_inv hf
          refine x_cVi C (c_X4_parsePercents hN h20) mw_X4_parsePercents ln_RX4_150 mi_X4_parsePercents (hN.rc (ci := 4) sh21 rc4) (ro_of (by decide) (by decide) (by decide) (by decide)) rfl rfl (Nat.le_of_ble_eq_true rfl) (dkAt dk_X4_parseAct 43 rfl) 82 rfl 0 0 rfl rfl ?_
          refine x_if_ne C 87 (dkAt dk_X4_parseAct 44 rfl) 85 rfl (by decide) hf (fun hf => ?_) (fun hf => ?_)
          · refine x_aload_n C rfl rfl (dkAt dk_X4_parseAct 47 rfl) 88 rfl ?_
            refine x_getS C lk_RX4_12 (hN.sh sh21) (hN.sr sr21_0) (dkAt dk_X4_parseAct 48 rfl) 91 rfl ?_
            refine x_getS C lk_RX4_137 (hN.sh sh22) (hN.sr sr22_2) (dkAt dk_X4_parseAct 49 rfl) 94 rfl ?_
            refine x_iload_n C rfl rfl (dkAt dk_X4_parseAct 50 rfl) 95 rfl ?_
            refine x_dup2 C rfl rfl (dkAt dk_X4_parseAct 51 rfl) 96 rfl ?_
            refine x_iald C (hN.sh sh23) (dkAt dk_X4_parseAct 52 rfl) 97 rfl hf (fun v18 hf => ?_)
            refine x_iconst C (v := (1 : Int32)) (by decide) (dkAt dk_X4_parseAct 53 rfl) 98 rfl ?_
            refine x_iadd C (dkAt dk_X4_parseAct 54 rfl) 99 rfl ?_
            refine x_iast C (hN.sh sh23) (dkAt dk_X4_parseAct 55 rfl) 100 rfl hf (fun M19 hf => ?_)
            refine x_iconst C (v := (1 : Int32)) (by decide) (dkAt dk_X4_parseAct 56 rfl) 101 rfl ?_
            exact x_zret C E (by decide) hf (by decide) (by decide) (dkAt dk_X4_parseAct 57 rfl)
          · refine x_iconst C (v := (0 : Int32)) (by decide) (dkAt dk_X4_parseAct 45 rfl) 86 rfl ?_
            exact x_zret C E (by decide) hf (by decide) (by decide) (dkAt dk_X4_parseAct 46 rfl)
    · refine x_aload_n C rfl rfl (dkAt dk_X4_parseAct 18 rfl) 35 rfl ?_
      refine x_iconst C (v := (4 : Int32)) (by decide) (dkAt dk_X4_parseAct 19 rfl) 36 rfl ?_
      obtain ⟨v25, M26, h27, hf⟩ := cl_inv hf
      refine x_cVi C (c_X4_fail hN h27) mw_X4_fail ln_RX4_65 mi_X4_fail (hN.rc (ci := 4) sh21 rc4) (ro_of (by decide) (by decide) (by decide) (by decide)) rfl rfl (Nat.le_of_ble_eq_true rfl) (dkAt dk_X4_parseAct 20 rfl) 39 rfl 0 0 rfl rfl ?_
      obtain ⟨hz, hf⟩ := if_some hf
      exact x_zret C E hz hf (by decide) (by decide) (dkAt dk_X4_parseAct 21 rfl)
  · refine x_iconst C (v := (0 : Int32)) (by decide) (dkAt dk_X4_parseAct 6 rfl) 15 rfl ?_
    exact x_zret C E (by decide) hf (by decide) (by decide) (dkAt dk_X4_parseAct 7 rfl)
def f_X4_parseWeights_L22 (Z : Nat) (p0 : Int32) (k0 : Int32 → Mem → Option (Int32 × Mem)) (k1 : Mem → Option (Int32 × Mem)) : Nat → Int32 → Int32 → Mem → Option (Int32 × Mem)
  | 0, _, _, _ => none
  | n + 1, x2, x3, M4 => (if (3 : Int32) < x3 then k0 x2 M4 else bd (gI M4 (1) 3) (fun v5 => (if v5 = (2 : Int32) then rdI M4 23 6 p0 (fun v6 => (if x3 < v6 then cl (f_X4_takeNumber Z M4 (0 : Int32) x2) (fun v7 M8 => (if v7 = 0 then some ((0 : Int32), M8) else cl (f_X11_rowOf Z M8 p0 x3) (fun v9 M10 => bd (gI M10 (21) 5) (fun v11 => wrI M10 30 18 v9 v11 (fun M12 => bd (gI M12 (21) 5) (fun v13 => f_X4_parseWeights_L22 Z p0 k0 k1 n (x2 - v13) (x3 + (1 : Int32)) M12)))))) else k1 M4)) else k0 x2 M4)))
def f_X4_parseWeights (Z : Nat) (M : Mem) (p0 : Int32) : Option (Int32 × Mem) :=
  bd (gI M (1) 3) (fun v1 => (if v1 = (2 : Int32) then f_X4_parseWeights_L22 Z p0 (fun (y16 : Int32) (M17 : Mem) => cl (f_X4_endLine Z M17 y16) (fun v18 M19 => (if v18 &&& 1 = v18 then some (v18, M19) else none))) (fun (M21 : Mem) => cl (f_X4_fail Z M21 (1 : Int32)) (fun v22 M23 => (if v22 &&& 1 = v22 then some (v22, M23) else none))) Z (10 : Int32) (0 : Int32) M else cl (f_X4_fail Z M (1 : Int32)) (fun v25 M26 => (if v25 &&& 1 = v25 then some (v25, M26) else none))))
set_option maxRecDepth 100000 in
theorem l_X4_parseWeights_L22 {Γ : WC} {X : MX} (hN : HN Γ) (C : CX Γ X cX4_parseWeights 4 RX4 (some .boolean) (rmL 3 0 0)) {rM : Int32 × Mem} (E : EndN Γ X (some (.int rM.1)) rM.2 0 0) {Z : Nat} {p0 : Int32} {k0 : Int32 → Mem → Option (Int32 × Mem)} {k1 : Mem → Option (Int32 × Mem)} (hk0 : ∀ (a2 : Int32) (Mx : Mem), k0 a2 Mx = some rM → G Γ X Mx 0 0 [some (.ref (wad Γ 21)), none, some (.int a2)] [] 98) (hk1 : ∀  (Mx : Mem), k1 Mx = some rM → G Γ X Mx 0 0 [some (.ref (wad Γ 21))] [] 51) : ∀ (n : Nat) (x2 : Int32) (x3 : Int32) (M4 : Mem), f_X4_parseWeights_L22 Z p0 k0 k1 n x2 x3 M4 = some rM → G Γ X M4 0 0 [some (.ref (wad Γ 21)), some (.int p0), some (.int x2), some (.int x3)] [] 22 := by
  intro n
  induction n with
  | zero =>
    intro x2 x3 M4 hf
    have hf0 : (none : Option _) = some rM := hf
    cases hf0
  | succ n ih =>
    intro x2 x3 M4 hf
    rw [f_X4_parseWeights_L22] at hf
    refine x_iload_n C rfl rfl (dkAt dk_X4_parseWeights 13 rfl) 23 rfl ?_
    refine x_iconst C (v := (3 : Int32)) (by decide) (dkAt dk_X4_parseWeights 14 rfl) 24 rfl ?_
    refine x_icmp_gt C 98 (dkAt dk_X4_parseWeights 15 rfl) 27 rfl (by decide) hf (fun hf => ?_) (fun hf => ?_)
    · exact G.weak (L := [some (.ref (wad Γ 21)), none, some (.int x2)]) ⟨rfl, rfl, trivial⟩ (hk0 _ _ hf)
    · refine x_aload_n C rfl rfl (dkAt dk_X4_parseWeights 16 rfl) 28 rfl ?_
      refine x_getS C lk_RX4_29 (hN.sh sh21) (hN.sr sr21_4) (dkAt dk_X4_parseWeights 17 rfl) 31 rfl ?_
      refine x_getI C lk_RX4_53 (hN.sh sh1) (dkAt dk_X4_parseWeights 18 rfl) 34 rfl hf (fun v5 hf => ?_)
      refine x_iconst C (v := (2 : Int32)) (by decide) (dkAt dk_X4_parseWeights 19 rfl) 35 rfl ?_
      refine x_icmp_ne C 98 (dkAt dk_X4_parseWeights 20 rfl) 38 rfl (by decide) hf (fun hf => ?_) (fun hf => ?_)
      · exact G.weak (L := [some (.ref (wad Γ 21)), none, some (.int x2)]) ⟨rfl, rfl, trivial⟩ (hk0 _ _ hf)
      · refine x_iload_n C rfl rfl (dkAt dk_X4_parseWeights 21 rfl) 39 rfl ?_
        refine x_aload_n C rfl rfl (dkAt dk_X4_parseWeights 22 rfl) 40 rfl ?_
        refine x_getS C lk_RX4_12 (hN.sh sh21) (hN.sr sr21_0) (dkAt dk_X4_parseWeights 23 rfl) 43 rfl ?_
        refine x_getS C lk_RX4_137 (hN.sh sh22) (hN.sr sr22_2) (dkAt dk_X4_parseWeights 24 rfl) 46 rfl ?_
        refine x_iload_n C rfl rfl (dkAt dk_X4_parseWeights 25 rfl) 47 rfl ?_
        refine x_iald C (hN.sh sh23) (dkAt dk_X4_parseWeights 26 rfl) 48 rfl hf (fun v6 hf => ?_)
        refine x_icmp_lt C 57 (dkAt dk_X4_parseWeights 27 rfl) 51 rfl (by decide) hf (fun hf => ?_) (fun hf => ?_)
        · refine x_aload_n C rfl rfl (dkAt dk_X4_parseWeights 32 rfl) 58 rfl ?_
          refine x_iconst C (v := (0 : Int32)) (by decide) (dkAt dk_X4_parseWeights 33 rfl) 59 rfl ?_
          refine x_iload_n C rfl rfl (dkAt dk_X4_parseWeights 34 rfl) 60 rfl ?_
          obtain ⟨v7, M8, h15, hf⟩ := cl_inv hf
          refine x_cVi C (c_X4_takeNumber hN h15) mw_X4_takeNumber ln_RX4_94 mi_X4_takeNumber (hN.rc (ci := 4) sh21 rc4) (ro_of (by decide) (by decide) (by decide) (by decide)) rfl rfl (Nat.le_of_ble_eq_true rfl) (dkAt dk_X4_parseWeights 35 rfl) 63 rfl 0 0 rfl rfl ?_
          refine x_if_ne C 68 (dkAt dk_X4_parseWeights 36 rfl) 66 rfl (by decide) hf (fun hf => ?_) (fun hf => ?_)
          · refine x_aload_n C rfl rfl (dkAt dk_X4_parseWeights 39 rfl) 69 rfl ?_
            refine x_getS C lk_RX4_21 (hN.sh sh21) (hN.sr sr21_1) (dkAt dk_X4_parseWeights 40 rfl) 72 rfl ?_
            refine x_getS C lk_RX4_179 (hN.sh sh29) (hN.sr sr29_0) (dkAt dk_X4_parseWeights 41 rfl) 75 rfl ?_
            refine x_iload_n C rfl rfl (dkAt dk_X4_parseWeights 42 rfl) 76 rfl ?_
            refine x_iload_n C rfl rfl (dkAt dk_X4_parseWeights 43 rfl) 77 rfl ?_
            obtain ⟨v9, M10, h14, hf⟩ := cl_inv hf
            refine x_cNi C (c_X11_rowOf hN h14) mw_X11_rowOf ln_RX4_140 ms_X11_rowOf (ro_of (by decide) (by decide) (by decide) (by decide)) rfl rfl (Nat.le_of_ble_eq_true rfl) (dkAt dk_X4_parseWeights 44 rfl) 80 rfl 0 0 rfl rfl ?_
            refine x_aload_n C rfl rfl (dkAt dk_X4_parseWeights 45 rfl) 81 rfl ?_
            refine x_getI C lk_RX4_79 (hN.sh sh21) (dkAt dk_X4_parseWeights 46 rfl) 84 rfl hf (fun v11 hf => ?_)
            refine x_iast C (hN.sh sh30) (dkAt dk_X4_parseWeights 47 rfl) 85 rfl hf (fun M12 hf => ?_)
            refine x_iload_n C rfl rfl (dkAt dk_X4_parseWeights 48 rfl) 86 rfl ?_
            refine x_aload_n C rfl rfl (dkAt dk_X4_parseWeights 49 rfl) 87 rfl ?_
            refine x_getI C lk_RX4_79 (hN.sh sh21) (dkAt dk_X4_parseWeights 50 rfl) 90 rfl hf (fun v13 hf => ?_)
            refine x_isub C (dkAt dk_X4_parseWeights 51 rfl) 91 rfl ?_
            refine x_istore_n C (L1 := [some (.ref (wad Γ 21)), some (.int p0), some (.int (x2 - v13)), some (.int x3)]) (dkAt dk_X4_parseWeights 52 rfl) 92 rfl rfl (by decide) rfl ?_
            refine x_iinc C (v := (x3 + (1 : Int32))) (L1 := [some (.ref (wad Γ 21)), some (.int p0), some (.int (x2 - v13)), some (.int (x3 + (1 : Int32)))]) (dkAt dk_X4_parseWeights 53 rfl) 95 rfl rfl rfl (by decide) rfl ?_
            refine x_goto C 22 (dkAt dk_X4_parseWeights 54 rfl) (by decide) ?_
            exact G.weak (L := [some (.ref (wad Γ 21)), some (.int p0), some (.int (x2 - v13)), some (.int (x3 + (1 : Int32)))]) ⟨rfl, rfl, rfl, rfl, trivial⟩ (ih _ _ _ hf)
          · refine x_iconst C (v := (0 : Int32)) (by decide) (dkAt dk_X4_parseWeights 37 rfl) 67 rfl ?_
            exact x_zret C E (by decide) hf (by decide) (by decide) (dkAt dk_X4_parseWeights 38 rfl)
        · exact G.weak (L := [some (.ref (wad Γ 21))]) ⟨rfl, trivial⟩ (hk1 _ hf)
set_option maxRecDepth 100000 in
theorem c_X4_parseWeights {Γ : WC} (hN : HN Γ) {Z : Nat} {M : Mem} {p0 : Int32} {rM : Int32 × Mem}  (hf : f_X4_parseWeights Z M p0 = some rM) : Ct Γ yX4_parseWeights cX4_parseWeights 4 (some .boolean) (rmL 3 0 0) [.ref (wad Γ 21), .int p0] M (some (.int rM.1)) rM.2 := by
  refine mkN hN.1 (own := RX4) rfl (by decide) (Nat.le_of_ble_eq_true rfl) (fun X C E => ?_)
  change G Γ X M 0 0 [some (.ref (wad Γ 21)), some (.int p0)] [] 0
  unfold f_X4_parseWeights at hf
  refine x_aload_n C rfl rfl (dkAt dk_X4_parseWeights 0 rfl) 1 rfl ?_
  refine x_getS C lk_RX4_29 (hN.sh sh21) (hN.sr sr21_4) (dkAt dk_X4_parseWeights 1 rfl) 4 rfl ?_
  refine x_getI C lk_RX4_53 (hN.sh sh1) (dkAt dk_X4_parseWeights 2 rfl) 7 rfl hf (fun v1 hf => ?_)
  refine x_iconst C (v := (2 : Int32)) (by decide) (dkAt dk_X4_parseWeights 3 rfl) 8 rfl ?_
  refine x_icmp_eq C 17 (dkAt dk_X4_parseWeights 4 rfl) 11 rfl (by decide) hf (fun hf => ?_) (fun hf => ?_)
  · refine x_bipush C (v := (10 : Int32)) (by decide) (dkAt dk_X4_parseWeights 9 rfl) 19 rfl ?_
    refine x_istore_n C (L1 := [some (.ref (wad Γ 21)), some (.int p0), some (.int (10 : Int32))]) (dkAt dk_X4_parseWeights 10 rfl) 20 rfl rfl (by decide) rfl ?_
    refine x_iconst C (v := (0 : Int32)) (by decide) (dkAt dk_X4_parseWeights 11 rfl) 21 rfl ?_
    refine x_istore_n C (L1 := [some (.ref (wad Γ 21)), some (.int p0), some (.int (10 : Int32)), some (.int (0 : Int32))]) (dkAt dk_X4_parseWeights 12 rfl) 22 rfl rfl (by decide) rfl ?_
    refine G.weak (L := [some (.ref (wad Γ 21)), some (.int p0), some (.int (10 : Int32)), some (.int (0 : Int32))]) ⟨rfl, rfl, rfl, rfl, trivial⟩ ?_
    refine l_X4_parseWeights_L22 hN C E ?_ ?_ Z _ _ _ hf
    · intro y16 M17 hf
      refine x_aload_n C rfl rfl (dkAt dk_X4_parseWeights 55 rfl) 99 rfl ?_
      refine x_iload_n C rfl rfl (dkAt dk_X4_parseWeights 56 rfl) 100 rfl ?_
      obtain ⟨v18, M19, h20, hf⟩ := cl_inv hf
      refine x_cVi C (c_X4_endLine hN h20) mw_X4_endLine ln_RX4_173 mi_X4_endLine (hN.rc (ci := 4) sh21 rc4) (ro_of (by decide) (by decide) (by decide) (by decide)) rfl rfl (Nat.le_of_ble_eq_true rfl) (dkAt dk_X4_parseWeights 57 rfl) 103 rfl 0 0 rfl rfl ?_
      obtain ⟨hz, hf⟩ := if_some hf
      exact x_zret C E hz hf (by decide) (by decide) (dkAt dk_X4_parseWeights 58 rfl)
    · intro M21 hf
      refine x_aload_n C rfl rfl (dkAt dk_X4_parseWeights 28 rfl) 52 rfl ?_
      refine x_iconst C (v := (1 : Int32)) (by decide) (dkAt dk_X4_parseWeights 29 rfl) 53 rfl ?_
      obtain ⟨v22, M23, h24, hf⟩ := cl_inv hf
      refine x_cVi C (c_X4_fail hN h24) mw_X4_fail ln_RX4_65 mi_X4_fail (hN.rc (ci := 4) sh21 rc4) (ro_of (by decide) (by decide) (by decide) (by decide)) rfl rfl (Nat.le_of_ble_eq_true rfl) (dkAt dk_X4_parseWeights 30 rfl) 56 rfl 0 0 rfl rfl ?_
      obtain ⟨hz, hf⟩ := if_some hf
      exact x_zret C E hz hf (by decide) (by decide) (dkAt dk_X4_parseWeights 31 rfl)
  · refine x_aload_n C rfl rfl (dkAt dk_X4_parseWeights 5 rfl) 12 rfl ?_
    refine x_iconst C (v := (1 : Int32)) (by decide) (dkAt dk_X4_parseWeights 6 rfl) 13 rfl ?_
    obtain ⟨v25, M26, h27, hf⟩ := cl_inv hf
    refine x_cVi C (c_X4_fail hN h27) mw_X4_fail ln_RX4_65 mi_X4_fail (hN.rc (ci := 4) sh21 rc4) (ro_of (by decide) (by decide) (by decide) (by decide)) rfl rfl (Nat.le_of_ble_eq_true rfl) (dkAt dk_X4_parseWeights 7 rfl) 16 rfl 0 0 rfl rfl ?_
    obtain ⟨hz, hf⟩ := if_some hf
    exact x_zret C E hz hf (by decide) (by decide) (dkAt dk_X4_parseWeights 8 rfl)
def f_X4_parseRule (Z : Nat) (M : Mem)  : Option (Int32 × Mem) :=
  cl (f_X2_advance Z M) (fun v1 M2 => cl (f_X4_seeState Z M2) (fun v3 M4 => (if v3 = 0 then some ((0 : Int32), M4) else bd (gI M4 (21) 5) (fun v5 => bd (gI M4 (21) 6) (fun v6 => (if ((v6 >>> (v5 &&& 31)) &&& (1 : Int32)) = (1 : Int32) then cl (f_X4_fail Z M4 (3 : Int32)) (fun v15 M16 => (if v15 &&& 1 = v15 then some (v15, M16) else none)) else bd (gI M4 (21) 6) (fun v7 => bd (sI M4 (21) 6 (v7 ||| ((1 : Int32) <<< (v5 &&& 31)))) (fun M8 => cl (f_X2_advance Z M8) (fun v9 M10 => cl (f_X4_parseWeights Z M10 v5) (fun v11 M12 => (if v11 &&& 1 = v11 then some (v11, M12) else none)))))))))))
set_option maxRecDepth 100000 in
theorem c_X4_parseRule {Γ : WC} (hN : HN Γ) {Z : Nat} {M : Mem}  {rM : Int32 × Mem}  (hf : f_X4_parseRule Z M  = some rM) : Ct Γ yX4_parseRule cX4_parseRule 2 (some .boolean) (rmL 4 0 0) [.ref (wad Γ 21)] M (some (.int rM.1)) rM.2 := by
  refine mkN hN.1 (own := RX4) rfl (by decide) (Nat.le_of_ble_eq_true rfl) (fun X C E => ?_)
  change G Γ X M 0 0 [some (.ref (wad Γ 21))] [] 0
  unfold f_X4_parseRule at hf
  refine x_aload_n C rfl rfl (dkAt dk_X4_parseRule 0 rfl) 1 rfl ?_
  refine x_getS C lk_RX4_29 (hN.sh sh21) (hN.sr sr21_4) (dkAt dk_X4_parseRule 1 rfl) 4 rfl ?_
  obtain ⟨v1, M2, h19, hf⟩ := cl_inv hf
  refine x_cVv C (c_X2_advance hN h19) mw_X2_advance ln_RX4_56 mi_X2_advance (hN.rc (ci := 2) sh1 rc2) (ro_of (by decide) (by decide) (by decide) (by decide)) rfl rfl (Nat.le_of_ble_eq_true rfl) (dkAt dk_X4_parseRule 2 rfl) 7 rfl 0 0 rfl rfl ?_
  refine x_aload_n C rfl rfl (dkAt dk_X4_parseRule 3 rfl) 8 rfl ?_
  obtain ⟨v3, M4, h18, hf⟩ := cl_inv hf
  refine x_cVi C (c_X4_seeState hN h18) mw_X4_seeState ln_RX4_132 mi_X4_seeState (hN.rc (ci := 4) sh21 rc4) (ro_of (by decide) (by decide) (by decide) (by decide)) rfl rfl (Nat.le_of_ble_eq_true rfl) (dkAt dk_X4_parseRule 4 rfl) 11 rfl 0 0 rfl rfl ?_
  refine x_if_ne C 16 (dkAt dk_X4_parseRule 5 rfl) 14 rfl (by decide) hf (fun hf => ?_) (fun hf => ?_)
  · refine x_aload_n C rfl rfl (dkAt dk_X4_parseRule 8 rfl) 17 rfl ?_
    refine x_getI C lk_RX4_79 (hN.sh sh21) (dkAt dk_X4_parseRule 9 rfl) 20 rfl hf (fun v5 hf => ?_)
    refine x_istore_n C (L1 := [some (.ref (wad Γ 21)), some (.int v5)]) (dkAt dk_X4_parseRule 10 rfl) 21 rfl rfl (by decide) rfl ?_
    refine x_aload_n C rfl rfl (dkAt dk_X4_parseRule 11 rfl) 22 rfl ?_
    refine x_getI C lk_RX4_36 (hN.sh sh21) (dkAt dk_X4_parseRule 12 rfl) 25 rfl hf (fun v6 hf => ?_)
    refine x_iload_n C rfl rfl (dkAt dk_X4_parseRule 13 rfl) 26 rfl ?_
    refine x_ishr C (dkAt dk_X4_parseRule 14 rfl) 27 rfl ?_
    refine x_iconst C (v := (1 : Int32)) (by decide) (dkAt dk_X4_parseRule 15 rfl) 28 rfl ?_
    refine x_iand C (dkAt dk_X4_parseRule 16 rfl) 29 rfl ?_
    refine x_iconst C (v := (1 : Int32)) (by decide) (dkAt dk_X4_parseRule 17 rfl) 30 rfl ?_
    refine x_icmp_ne C 39 (dkAt dk_X4_parseRule 18 rfl) 33 rfl (by decide) hf (fun hf => ?_) (fun hf => ?_)
    · refine x_aload_n C rfl rfl (dkAt dk_X4_parseRule 23 rfl) 40 rfl ?_
      refine x_dup C rfl (dkAt dk_X4_parseRule 24 rfl) 41 rfl ?_
      refine x_getI C lk_RX4_36 (hN.sh sh21) (dkAt dk_X4_parseRule 25 rfl) 44 rfl hf (fun v7 hf => ?_)
      refine x_iconst C (v := (1 : Int32)) (by decide) (dkAt dk_X4_parseRule 26 rfl) 45 rfl ?_
      refine x_iload_n C rfl rfl (dkAt dk_X4_parseRule 27 rfl) 46 rfl ?_
      refine x_ishl C (dkAt dk_X4_parseRule 28 rfl) 47 rfl ?_
      refine x_ior C (dkAt dk_X4_parseRule 29 rfl) 48 rfl ?_
      refine x_putI C pk_RX4_36 ⟨_, rfl⟩ (hN.sh sh21) (dkAt dk_X4_parseRule 30 rfl) 51 rfl hf (fun M8 hf => ?_)
      refine x_aload_n C rfl rfl (dkAt dk_X4_parseRule 31 rfl) 52 rfl ?_
      refine x_getS C lk_RX4_29 (hN.sh sh21) (hN.sr sr21_4) (dkAt dk_X4_parseRule 32 rfl) 55 rfl ?_
      obtain ⟨v9, M10, h14, hf⟩ := cl_inv hf
      refine x_cVv C (c_X2_advance hN h14) mw_X2_advance ln_RX4_56 mi_X2_advance (hN.rc (ci := 2) sh1 rc2) (ro_of (by decide) (by decide) (by decide) (by decide)) rfl rfl (Nat.le_of_ble_eq_true rfl) (dkAt dk_X4_parseRule 33 rfl) 58 rfl 0 0 rfl rfl ?_
      refine x_aload_n C rfl rfl (dkAt dk_X4_parseRule 34 rfl) 59 rfl ?_
      refine x_iload_n C rfl rfl (dkAt dk_X4_parseRule 35 rfl) 60 rfl ?_
      obtain ⟨v11, M12, h13, hf⟩ := cl_inv hf
      refine x_cVi C (c_X4_parseWeights hN h13) mw_X4_parseWeights ln_RX4_176 mi_X4_parseWeights (hN.rc (ci := 4) sh21 rc4) (ro_of (by decide) (by decide) (by decide) (by decide)) rfl rfl (Nat.le_of_ble_eq_true rfl) (dkAt dk_X4_parseRule 36 rfl) 63 rfl 0 0 rfl rfl ?_
      obtain ⟨hz, hf⟩ := if_some hf
      exact x_zret C E hz hf (by decide) (by decide) (dkAt dk_X4_parseRule 37 rfl)
    · refine x_aload_n C rfl rfl (dkAt dk_X4_parseRule 19 rfl) 34 rfl ?_
      refine x_iconst C (v := (3 : Int32)) (by decide) (dkAt dk_X4_parseRule 20 rfl) 35 rfl ?_
      obtain ⟨v15, M16, h17, hf⟩ := cl_inv hf
      refine x_cVi C (c_X4_fail hN h17) mw_X4_fail ln_RX4_65 mi_X4_fail (hN.rc (ci := 4) sh21 rc4) (ro_of (by decide) (by decide) (by decide) (by decide)) rfl rfl (Nat.le_of_ble_eq_true rfl) (dkAt dk_X4_parseRule 21 rfl) 38 rfl 0 0 rfl rfl ?_
      obtain ⟨hz, hf⟩ := if_some hf
      exact x_zret C E hz hf (by decide) (by decide) (dkAt dk_X4_parseRule 22 rfl)
  · refine x_iconst C (v := (0 : Int32)) (by decide) (dkAt dk_X4_parseRule 6 rfl) 15 rfl ?_
    exact x_zret C E (by decide) hf (by decide) (by decide) (dkAt dk_X4_parseRule 7 rfl)
def f_X4_parseStart (Z : Nat) (M : Mem)  : Option (Int32 × Mem) :=
  cl (f_X4_takeWord Z M 9) (fun v1 M2 => (if v1 = 0 then some ((0 : Int32), M2) else cl (f_X4_seeState Z M2) (fun v3 M4 => (if v3 = 0 then some ((0 : Int32), M4) else bd (gI M4 (21) 5) (fun v5 => bd (sI M4 (29) 3 v5) (fun M6 => cl (f_X2_advance Z M6) (fun v7 M8 => some ((1 : Int32), M8))))))))
set_option maxRecDepth 100000 in
theorem c_X4_parseStart {Γ : WC} (hN : HN Γ) {Z : Nat} {M : Mem}  {rM : Int32 × Mem}  (hf : f_X4_parseStart Z M  = some rM) : Ct Γ yX4_parseStart cX4_parseStart 1 (some .boolean) (rmL 8 0 0) [.ref (wad Γ 21)] M (some (.int rM.1)) rM.2 := by
  refine mkN hN.1 (own := RX4) rfl (by decide) (Nat.le_of_ble_eq_true rfl) (fun X C E => ?_)
  change G Γ X M 0 0 [some (.ref (wad Γ 21))] [] 0
  unfold f_X4_parseStart at hf
  refine x_aload_n C rfl rfl (dkAt dk_X4_parseStart 0 rfl) 1 rfl ?_
  refine x_ldcS C (hN.st (i := 21) rfl) (dkAt dk_X4_parseStart 1 rfl) 3 rfl ?_
  obtain ⟨v1, M2, h11, hf⟩ := cl_inv hf
  refine x_cVi C (c_X4_takeWord hN (by decide) h11) mw_X4_takeWord ln_RX4_90 mi_X4_takeWord (hN.rc (ci := 4) sh21 rc4) (ro_of (by decide) (by decide) (by decide) (by decide)) rfl rfl (Nat.le_of_ble_eq_true rfl) (dkAt dk_X4_parseStart 2 rfl) 6 rfl 0 0 rfl rfl ?_
  refine x_if_eq C 16 (dkAt dk_X4_parseStart 3 rfl) 9 rfl (by decide) hf (fun hf => ?_) (fun hf => ?_)
  · refine x_iconst C (v := (0 : Int32)) (by decide) (dkAt dk_X4_parseStart 7 rfl) 17 rfl ?_
    exact x_zret C E (by decide) hf (by decide) (by decide) (dkAt dk_X4_parseStart 8 rfl)
  · refine x_aload_n C rfl rfl (dkAt dk_X4_parseStart 4 rfl) 10 rfl ?_
    obtain ⟨v3, M4, h10, hf⟩ := cl_inv hf
    refine x_cVi C (c_X4_seeState hN h10) mw_X4_seeState ln_RX4_132 mi_X4_seeState (hN.rc (ci := 4) sh21 rc4) (ro_of (by decide) (by decide) (by decide) (by decide)) rfl rfl (Nat.le_of_ble_eq_true rfl) (dkAt dk_X4_parseStart 5 rfl) 13 rfl 0 0 rfl rfl ?_
    refine x_if_ne C 18 (dkAt dk_X4_parseStart 6 rfl) 16 rfl (by decide) hf (fun hf => ?_) (fun hf => ?_)
    · refine x_aload_n C rfl rfl (dkAt dk_X4_parseStart 9 rfl) 19 rfl ?_
      refine x_getS C lk_RX4_21 (hN.sh sh21) (hN.sr sr21_1) (dkAt dk_X4_parseStart 10 rfl) 22 rfl ?_
      refine x_aload_n C rfl rfl (dkAt dk_X4_parseStart 11 rfl) 23 rfl ?_
      refine x_getI C lk_RX4_79 (hN.sh sh21) (dkAt dk_X4_parseStart 12 rfl) 26 rfl hf (fun v5 hf => ?_)
      refine x_putI C pk_RX4_135 ⟨_, rfl⟩ (hN.sh sh29) (dkAt dk_X4_parseStart 13 rfl) 29 rfl hf (fun M6 hf => ?_)
      refine x_aload_n C rfl rfl (dkAt dk_X4_parseStart 14 rfl) 30 rfl ?_
      refine x_getS C lk_RX4_29 (hN.sh sh21) (hN.sr sr21_4) (dkAt dk_X4_parseStart 15 rfl) 33 rfl ?_
      obtain ⟨v7, M8, h9, hf⟩ := cl_inv hf
      refine x_cVv C (c_X2_advance hN h9) mw_X2_advance ln_RX4_56 mi_X2_advance (hN.rc (ci := 2) sh1 rc2) (ro_of (by decide) (by decide) (by decide) (by decide)) rfl rfl (Nat.le_of_ble_eq_true rfl) (dkAt dk_X4_parseStart 16 rfl) 36 rfl 0 0 rfl rfl ?_
      refine x_iconst C (v := (1 : Int32)) (by decide) (dkAt dk_X4_parseStart 17 rfl) 37 rfl ?_
      exact x_zret C E (by decide) hf (by decide) (by decide) (dkAt dk_X4_parseStart 18 rfl)
    · refine x_iconst C (v := (0 : Int32)) (by decide) (dkAt dk_X4_parseStart 7 rfl) 17 rfl ?_
      exact x_zret C E (by decide) hf (by decide) (by decide) (dkAt dk_X4_parseStart 8 rfl)
def f_X4_parseLine (Z : Nat) (M : Mem)  : Option (Int32 × Mem) :=
  cl (f_X2_isWord Z M 4) (fun v1 M2 => (if v1 = 0 then cl (f_X2_isWord Z M2 5) (fun v3 M4 => (if v3 = 0 then cl (f_X2_isWord Z M4 8) (fun v5 M6 => (if v5 = 0 then cl (f_X4_parseStart Z M6) (fun v7 M8 => (if v7 &&& 1 = v7 then some (v7, M8) else none)) else cl (f_X4_parseRule Z M6) (fun v10 M11 => (if v10 &&& 1 = v10 then some (v10, M11) else none)))) else cl (f_X4_parseAct Z M4) (fun v14 M15 => (if v14 &&& 1 = v14 then some (v14, M15) else none)))) else cl (f_X4_parseBudget Z M2) (fun v18 M19 => (if v18 &&& 1 = v18 then some (v18, M19) else none))))
set_option maxRecDepth 100000 in
theorem c_X4_parseLine {Γ : WC} (hN : HN Γ) {Z : Nat} {M : Mem}  {rM : Int32 × Mem}  (hf : f_X4_parseLine Z M  = some rM) : Ct Γ yX4_parseLine cX4_parseLine 1 (some .boolean) (rmL 9 0 0) [.ref (wad Γ 21)] M (some (.int rM.1)) rM.2 := by
  refine mkN hN.1 (own := RX4) rfl (by decide) (Nat.le_of_ble_eq_true rfl) (fun X C E => ?_)
  change G Γ X M 0 0 [some (.ref (wad Γ 21))] [] 0
  unfold f_X4_parseLine at hf
  refine x_aload_n C rfl rfl (dkAt dk_X4_parseLine 0 rfl) 1 rfl ?_
  refine x_getS C lk_RX4_29 (hN.sh sh21) (hN.sr sr21_4) (dkAt dk_X4_parseLine 1 rfl) 4 rfl ?_
  refine x_ldcS C (hN.st (i := 16) rfl) (dkAt dk_X4_parseLine 2 rfl) 6 rfl ?_
  obtain ⟨v1, M2, h21, hf⟩ := cl_inv hf
  refine x_cVi C (c_X2_isWord hN (by decide) h21) mw_X2_isWord ln_RX4_72 mi_X2_isWord (hN.rc (ci := 2) sh1 rc2) (ro_of (by decide) (by decide) (by decide) (by decide)) rfl rfl (Nat.le_of_ble_eq_true rfl) (dkAt dk_X4_parseLine 3 rfl) 9 rfl 0 0 rfl rfl ?_
  refine x_if_eq C 17 (dkAt dk_X4_parseLine 4 rfl) 12 rfl (by decide) hf (fun hf => ?_) (fun hf => ?_)
  · refine x_aload_n C rfl rfl (dkAt dk_X4_parseLine 8 rfl) 18 rfl ?_
    refine x_getS C lk_RX4_29 (hN.sh sh21) (hN.sr sr21_4) (dkAt dk_X4_parseLine 9 rfl) 21 rfl ?_
    refine x_ldcS C (hN.st (i := 17) rfl) (dkAt dk_X4_parseLine 10 rfl) 23 rfl ?_
    obtain ⟨v3, M4, h17, hf⟩ := cl_inv hf
    refine x_cVi C (c_X2_isWord hN (by decide) h17) mw_X2_isWord ln_RX4_72 mi_X2_isWord (hN.rc (ci := 2) sh1 rc2) (ro_of (by decide) (by decide) (by decide) (by decide)) rfl rfl (Nat.le_of_ble_eq_true rfl) (dkAt dk_X4_parseLine 11 rfl) 26 rfl 0 0 rfl rfl ?_
    refine x_if_eq C 34 (dkAt dk_X4_parseLine 12 rfl) 29 rfl (by decide) hf (fun hf => ?_) (fun hf => ?_)
    · refine x_aload_n C rfl rfl (dkAt dk_X4_parseLine 16 rfl) 35 rfl ?_
      refine x_getS C lk_RX4_29 (hN.sh sh21) (hN.sr sr21_4) (dkAt dk_X4_parseLine 17 rfl) 38 rfl ?_
      refine x_ldcS C (hN.st (i := 20) rfl) (dkAt dk_X4_parseLine 18 rfl) 40 rfl ?_
      obtain ⟨v5, M6, h13, hf⟩ := cl_inv hf
      refine x_cVi C (c_X2_isWord hN (by decide) h13) mw_X2_isWord ln_RX4_72 mi_X2_isWord (hN.rc (ci := 2) sh1 rc2) (ro_of (by decide) (by decide) (by decide) (by decide)) rfl rfl (Nat.le_of_ble_eq_true rfl) (dkAt dk_X4_parseLine 19 rfl) 43 rfl 0 0 rfl rfl ?_
      refine x_if_eq C 51 (dkAt dk_X4_parseLine 20 rfl) 46 rfl (by decide) hf (fun hf => ?_) (fun hf => ?_)
      · refine x_aload_n C rfl rfl (dkAt dk_X4_parseLine 24 rfl) 52 rfl ?_
        obtain ⟨v7, M8, h9, hf⟩ := cl_inv hf
        refine x_cVi C (c_X4_parseStart hN h9) mw_X4_parseStart ln_RX4_120 mi_X4_parseStart (hN.rc (ci := 4) sh21 rc4) (ro_of (by decide) (by decide) (by decide) (by decide)) rfl rfl (Nat.le_of_ble_eq_true rfl) (dkAt dk_X4_parseLine 25 rfl) 55 rfl 0 0 rfl rfl ?_
        obtain ⟨hz, hf⟩ := if_some hf
        exact x_zret C E hz hf (by decide) (by decide) (dkAt dk_X4_parseLine 26 rfl)
      · refine x_aload_n C rfl rfl (dkAt dk_X4_parseLine 21 rfl) 47 rfl ?_
        obtain ⟨v10, M11, h12, hf⟩ := cl_inv hf
        refine x_cVi C (c_X4_parseRule hN h12) mw_X4_parseRule ln_RX4_117 mi_X4_parseRule (hN.rc (ci := 4) sh21 rc4) (ro_of (by decide) (by decide) (by decide) (by decide)) rfl rfl (Nat.le_of_ble_eq_true rfl) (dkAt dk_X4_parseLine 22 rfl) 50 rfl 0 0 rfl rfl ?_
        obtain ⟨hz, hf⟩ := if_some hf
        exact x_zret C E hz hf (by decide) (by decide) (dkAt dk_X4_parseLine 23 rfl)
    · refine x_aload_n C rfl rfl (dkAt dk_X4_parseLine 13 rfl) 30 rfl ?_
      obtain ⟨v14, M15, h16, hf⟩ := cl_inv hf
      refine x_cVi C (c_X4_parseAct hN h16) mw_X4_parseAct ln_RX4_112 mi_X4_parseAct (hN.rc (ci := 4) sh21 rc4) (ro_of (by decide) (by decide) (by decide) (by decide)) rfl rfl (Nat.le_of_ble_eq_true rfl) (dkAt dk_X4_parseLine 14 rfl) 33 rfl 0 0 rfl rfl ?_
      obtain ⟨hz, hf⟩ := if_some hf
      exact x_zret C E hz hf (by decide) (by decide) (dkAt dk_X4_parseLine 15 rfl)
  · refine x_aload_n C rfl rfl (dkAt dk_X4_parseLine 5 rfl) 13 rfl ?_
    obtain ⟨v18, M19, h20, hf⟩ := cl_inv hf
    refine x_cVi C (c_X4_parseBudget hN h20) mw_X4_parseBudget ln_RX4_107 mi_X4_parseBudget (hN.rc (ci := 4) sh21 rc4) (ro_of (by decide) (by decide) (by decide) (by decide)) rfl rfl (Nat.le_of_ble_eq_true rfl) (dkAt dk_X4_parseLine 6 rfl) 16 rfl 0 0 rfl rfl ?_
    obtain ⟨hz, hf⟩ := if_some hf
    exact x_zret C E hz hf (by decide) (by decide) (dkAt dk_X4_parseLine 7 rfl)
def f_X4_checkStates_L2 (Z : Nat) (M : Mem) (k : Option (Int32 × Mem)) : Nat → Int32 → Option (Int32 × Mem)
  | 0, _ => none
  | n + 1, x1 => bd (gI M (22) 0) (fun v2 => (if v2 ≤ x1 then some ((1 : Int32), M) else rdI M 23 6 x1 (fun v3 => (if v3 = 0 then k else f_X4_checkStates_L2 Z M k n (x1 + (1 : Int32))))))
def f_X4_checkStates (Z : Nat) (M : Mem)  : Option (Int32 × Mem) :=
  f_X4_checkStates_L2 Z M (cl (f_X4_fail Z M (6 : Int32)) (fun v4 M5 => (if v4 &&& 1 = v4 then some (v4, M5) else none))) Z (0 : Int32)
set_option maxRecDepth 100000 in
theorem l_X4_checkStates_L2 {Γ : WC} {X : MX} (hN : HN Γ) (C : CX Γ X cX4_checkStates 2 RX4 (some .boolean) (rmL 1 0 0)) {rM : Int32 × Mem} (E : EndN Γ X (some (.int rM.1)) rM.2 0 0) {Z : Nat} {M : Mem} {k : Option (Int32 × Mem)} (hk : k = some rM → G Γ X M 0 0 [some (.ref (wad Γ 21))] [] 25) : ∀ (n : Nat) (x1 : Int32), f_X4_checkStates_L2 Z M k n x1 = some rM → G Γ X M 0 0 [some (.ref (wad Γ 21)), some (.int x1)] [] 2 := by
  intro n
  induction n with
  | zero =>
    intro x1 hf
    have hf0 : (none : Option _) = some rM := hf
    cases hf0
  | succ n ih =>
    intro x1 hf
    rw [f_X4_checkStates_L2] at hf
    refine x_iload_n C rfl rfl (dkAt dk_X4_checkStates 2 rfl) 3 rfl ?_
    refine x_aload_n C rfl rfl (dkAt dk_X4_checkStates 3 rfl) 4 rfl ?_
    refine x_getS C lk_RX4_12 (hN.sh sh21) (hN.sr sr21_0) (dkAt dk_X4_checkStates 4 rfl) 7 rfl ?_
    refine x_getI C lk_RX4_86 (hN.sh sh22) (dkAt dk_X4_checkStates 5 rfl) 10 rfl hf (fun v2 hf => ?_)
    refine x_icmp_ge C 38 (dkAt dk_X4_checkStates 6 rfl) 13 rfl (by decide) hf (fun hf => ?_) (fun hf => ?_)
    · refine x_iconst C (v := (1 : Int32)) (by decide) (dkAt dk_X4_checkStates 19 rfl) 39 rfl ?_
      exact x_zret C E (by decide) hf (by decide) (by decide) (dkAt dk_X4_checkStates 20 rfl)
    · refine x_aload_n C rfl rfl (dkAt dk_X4_checkStates 7 rfl) 14 rfl ?_
      refine x_getS C lk_RX4_12 (hN.sh sh21) (hN.sr sr21_0) (dkAt dk_X4_checkStates 8 rfl) 17 rfl ?_
      refine x_getS C lk_RX4_137 (hN.sh sh22) (hN.sr sr22_2) (dkAt dk_X4_checkStates 9 rfl) 20 rfl ?_
      refine x_iload_n C rfl rfl (dkAt dk_X4_checkStates 10 rfl) 21 rfl ?_
      refine x_iald C (hN.sh sh23) (dkAt dk_X4_checkStates 11 rfl) 22 rfl hf (fun v3 hf => ?_)
      refine x_if_ne C 32 (dkAt dk_X4_checkStates 12 rfl) 25 rfl (by decide) hf (fun hf => ?_) (fun hf => ?_)
      · refine x_iinc C (v := (x1 + (1 : Int32))) (L1 := [some (.ref (wad Γ 21)), some (.int (x1 + (1 : Int32)))]) (dkAt dk_X4_checkStates 17 rfl) 35 rfl rfl rfl (by decide) rfl ?_
        refine x_goto C 2 (dkAt dk_X4_checkStates 18 rfl) (by decide) ?_
        exact G.weak (L := [some (.ref (wad Γ 21)), some (.int (x1 + (1 : Int32)))]) ⟨rfl, rfl, trivial⟩ (ih _ hf)
      · exact G.weak (L := [some (.ref (wad Γ 21))]) ⟨rfl, trivial⟩ (hk hf)
set_option maxRecDepth 100000 in
theorem c_X4_checkStates {Γ : WC} (hN : HN Γ) {Z : Nat} {M : Mem}  {rM : Int32 × Mem}  (hf : f_X4_checkStates Z M  = some rM) : Ct Γ yX4_checkStates cX4_checkStates 2 (some .boolean) (rmL 1 0 0) [.ref (wad Γ 21)] M (some (.int rM.1)) rM.2 := by
  refine mkN hN.1 (own := RX4) rfl (by decide) (Nat.le_of_ble_eq_true rfl) (fun X C E => ?_)
  change G Γ X M 0 0 [some (.ref (wad Γ 21))] [] 0
  unfold f_X4_checkStates at hf
  refine x_iconst C (v := (0 : Int32)) (by decide) (dkAt dk_X4_checkStates 0 rfl) 1 rfl ?_
  refine x_istore_n C (L1 := [some (.ref (wad Γ 21)), some (.int (0 : Int32))]) (dkAt dk_X4_checkStates 1 rfl) 2 rfl rfl (by decide) rfl ?_
  refine G.weak (L := [some (.ref (wad Γ 21)), some (.int (0 : Int32))]) ⟨rfl, rfl, trivial⟩ ?_
  refine l_X4_checkStates_L2 hN C E ?_ Z _ hf
  intro hf
  refine x_aload_n C rfl rfl (dkAt dk_X4_checkStates 13 rfl) 26 rfl ?_
  refine x_bipush C (v := (6 : Int32)) (by decide) (dkAt dk_X4_checkStates 14 rfl) 28 rfl ?_
  obtain ⟨v4, M5, h6, hf⟩ := cl_inv hf
  refine x_cVi C (c_X4_fail hN h6) mw_X4_fail ln_RX4_65 mi_X4_fail (hN.rc (ci := 4) sh21 rc4) (ro_of (by decide) (by decide) (by decide) (by decide)) rfl rfl (Nat.le_of_ble_eq_true rfl) (dkAt dk_X4_checkStates 15 rfl) 31 rfl 0 0 rfl rfl ?_
  obtain ⟨hz, hf⟩ := if_some hf
  exact x_zret C E hz hf (by decide) (by decide) (dkAt dk_X4_checkStates 16 rfl)
def f_X4_parse_L48 (Z : Nat) (k : Mem → Option (Int32 × Mem)) : Nat → Int32 → Mem → Option (Int32 × Mem)
  | 0, _, _ => none
  | n + 1, x12, M13 => (if (1200 : Int32) ≤ x12 then k M13 else bd (gI M13 (1) 3) (fun v14 => (if v14 = (4 : Int32) then cl (f_X2_advance Z M13) (fun v15 M16 => cl (f_X4_parseLine Z M16) (fun v17 M18 => (if v17 = 0 then some ((0 : Int32), M18) else f_X4_parse_L48 Z k n (x12 + (1 : Int32)) M18))) else k M13)))
def f_X4_parse (Z : Nat) (M : Mem) (p0 : Int32) : Option (Int32 × Mem) :=
  bd (sI M (21) 2 (0 : Int32)) (fun M1 => bd (sI M1 (21) 3 (-1 : Int32)) (fun M2 => bd (sI M2 (21) 6 (0 : Int32)) (fun M3 => cl (f_X0_clear Z M3 (22)) (fun v4 M5 => cl (f_X7_clear Z M5 (29)) (fun v6 M7 => cl (f_X2_begin Z M7 p0) (fun v8 M9 => cl (f_X4_parseHead Z M9) (fun v10 M11 => (if v10 = 0 then some ((0 : Int32), M11) else f_X4_parse_L48 Z (fun (M21 : Mem) => bd (gI M21 (1) 3) (fun v22 => (if v22 = 0 then cl (f_X4_checkStates Z M21) (fun v26 M27 => (if v26 &&& 1 = v26 then some (v26, M27) else none)) else cl (f_X4_fail Z M21 (1 : Int32)) (fun v23 M24 => (if v23 &&& 1 = v23 then some (v23, M24) else none))))) Z (0 : Int32) M11))))))))
set_option maxRecDepth 100000 in
theorem l_X4_parse_L48 {Γ : WC} {X : MX} (hN : HN Γ) (C : CX Γ X cX4_parse 3 RX4 (some .boolean) (rmL 10 0 0)) {rM : Int32 × Mem} (E : EndN Γ X (some (.int rM.1)) rM.2 0 0) {Z : Nat} {k : Mem → Option (Int32 × Mem)} (hk : ∀  (Mx : Mem), k Mx = some rM → G Γ X Mx 0 0 [some (.ref (wad Γ 21))] [] 88) : ∀ (n : Nat) (x12 : Int32) (M13 : Mem), f_X4_parse_L48 Z k n x12 M13 = some rM → G Γ X M13 0 0 [some (.ref (wad Γ 21)), none, some (.int x12)] [] 48 := by
  intro n
  induction n with
  | zero =>
    intro x12 M13 hf
    have hf0 : (none : Option _) = some rM := hf
    cases hf0
  | succ n ih =>
    intro x12 M13 hf
    rw [f_X4_parse_L48] at hf
    refine x_iload_n C rfl rfl (dkAt dk_X4_parse 26 rfl) 49 rfl ?_
    refine x_sipush C (v := (1200 : Int32)) (by decide) (dkAt dk_X4_parse 27 rfl) 52 rfl ?_
    refine x_icmp_ge C 88 (dkAt dk_X4_parse 28 rfl) 55 rfl (by decide) hf (fun hf => ?_) (fun hf => ?_)
    · exact G.weak (L := [some (.ref (wad Γ 21))]) ⟨rfl, trivial⟩ (hk _ hf)
    · refine x_aload_n C rfl rfl (dkAt dk_X4_parse 29 rfl) 56 rfl ?_
      refine x_getS C lk_RX4_29 (hN.sh sh21) (hN.sr sr21_4) (dkAt dk_X4_parse 30 rfl) 59 rfl ?_
      refine x_getI C lk_RX4_53 (hN.sh sh1) (dkAt dk_X4_parse 31 rfl) 62 rfl hf (fun v14 hf => ?_)
      refine x_iconst C (v := (4 : Int32)) (by decide) (dkAt dk_X4_parse 32 rfl) 63 rfl ?_
      refine x_icmp_ne C 88 (dkAt dk_X4_parse 33 rfl) 66 rfl (by decide) hf (fun hf => ?_) (fun hf => ?_)
      · exact G.weak (L := [some (.ref (wad Γ 21))]) ⟨rfl, trivial⟩ (hk _ hf)
      · refine x_aload_n C rfl rfl (dkAt dk_X4_parse 34 rfl) 67 rfl ?_
        refine x_getS C lk_RX4_29 (hN.sh sh21) (hN.sr sr21_4) (dkAt dk_X4_parse 35 rfl) 70 rfl ?_
        obtain ⟨v15, M16, h20, hf⟩ := cl_inv hf
        refine x_cVv C (c_X2_advance hN h20) mw_X2_advance ln_RX4_56 mi_X2_advance (hN.rc (ci := 2) sh1 rc2) (ro_of (by decide) (by decide) (by decide) (by decide)) rfl rfl (Nat.le_of_ble_eq_true rfl) (dkAt dk_X4_parse 36 rfl) 73 rfl 0 0 rfl rfl ?_
        refine x_aload_n C rfl rfl (dkAt dk_X4_parse 37 rfl) 74 rfl ?_
        obtain ⟨v17, M18, h19, hf⟩ := cl_inv hf
        refine x_cVi C (c_X4_parseLine hN h19) mw_X4_parseLine ln_RX4_59 mi_X4_parseLine (hN.rc (ci := 4) sh21 rc4) (ro_of (by decide) (by decide) (by decide) (by decide)) rfl rfl (Nat.le_of_ble_eq_true rfl) (dkAt dk_X4_parse 38 rfl) 77 rfl 0 0 rfl rfl ?_
        refine x_if_ne C 82 (dkAt dk_X4_parse 39 rfl) 80 rfl (by decide) hf (fun hf => ?_) (fun hf => ?_)
        · refine x_iinc C (v := (x12 + (1 : Int32))) (L1 := [some (.ref (wad Γ 21)), none, some (.int (x12 + (1 : Int32)))]) (dkAt dk_X4_parse 42 rfl) 85 rfl rfl rfl (by decide) rfl ?_
          refine x_goto C 48 (dkAt dk_X4_parse 43 rfl) (by decide) ?_
          exact G.weak (L := [some (.ref (wad Γ 21)), none, some (.int (x12 + (1 : Int32)))]) ⟨rfl, rfl, trivial⟩ (ih _ _ hf)
        · refine x_iconst C (v := (0 : Int32)) (by decide) (dkAt dk_X4_parse 40 rfl) 81 rfl ?_
          exact x_zret C E (by decide) hf (by decide) (by decide) (dkAt dk_X4_parse 41 rfl)
set_option maxRecDepth 100000 in
theorem c_X4_parse {Γ : WC} (hN : HN Γ) {Z : Nat} {M : Mem} {p0 : Int32} {rM : Int32 × Mem}  (hf : f_X4_parse Z M p0 = some rM) : Ct Γ yX4_parse cX4_parse 3 (some .boolean) (rmL 10 0 0) [.ref (wad Γ 21), .int p0] M (some (.int rM.1)) rM.2 := by
  refine mkN hN.1 (own := RX4) rfl (by decide) (Nat.le_of_ble_eq_true rfl) (fun X C E => ?_)
  change G Γ X M 0 0 [some (.ref (wad Γ 21)), some (.int p0)] [] 0
  unfold f_X4_parse at hf
  refine x_aload_n C rfl rfl (dkAt dk_X4_parse 0 rfl) 1 rfl ?_
  refine x_iconst C (v := (0 : Int32)) (by decide) (dkAt dk_X4_parse 1 rfl) 2 rfl ?_
  refine x_putI C pk_RX4_33 ⟨_, rfl⟩ (hN.sh sh21) (dkAt dk_X4_parse 2 rfl) 5 rfl hf (fun M1 hf => ?_)
  refine x_aload_n C rfl rfl (dkAt dk_X4_parse 3 rfl) 6 rfl ?_
  refine x_iconst C (v := (-1 : Int32)) (by decide) (dkAt dk_X4_parse 4 rfl) 7 rfl ?_
  refine x_putI C pk_RX4_25 ⟨_, rfl⟩ (hN.sh sh21) (dkAt dk_X4_parse 5 rfl) 10 rfl hf (fun M2 hf => ?_)
  refine x_aload_n C rfl rfl (dkAt dk_X4_parse 6 rfl) 11 rfl ?_
  refine x_iconst C (v := (0 : Int32)) (by decide) (dkAt dk_X4_parse 7 rfl) 12 rfl ?_
  refine x_putI C pk_RX4_36 ⟨_, rfl⟩ (hN.sh sh21) (dkAt dk_X4_parse 8 rfl) 15 rfl hf (fun M3 hf => ?_)
  refine x_aload_n C rfl rfl (dkAt dk_X4_parse 9 rfl) 16 rfl ?_
  refine x_getS C lk_RX4_12 (hN.sh sh21) (hN.sr sr21_0) (dkAt dk_X4_parse 10 rfl) 19 rfl ?_
  obtain ⟨v4, M5, h32, hf⟩ := cl_inv hf
  refine x_cVv C (c_X0_clear hN sh22 h32) mw_X0_clear ln_RX4_39 mi_X0_clear (hN.rc (ci := 0) sh22 rc0) (ro_of (by decide) (by decide) (by decide) (by decide)) rfl rfl (Nat.le_of_ble_eq_true rfl) (dkAt dk_X4_parse 11 rfl) 22 rfl 0 0 rfl rfl ?_
  refine x_aload_n C rfl rfl (dkAt dk_X4_parse 12 rfl) 23 rfl ?_
  refine x_getS C lk_RX4_21 (hN.sh sh21) (hN.sr sr21_1) (dkAt dk_X4_parse 13 rfl) 26 rfl ?_
  obtain ⟨v6, M7, h31, hf⟩ := cl_inv hf
  refine x_cVv C (c_X7_clear hN sh29 h31) mw_X7_clear ln_RX4_42 mi_X7_clear (hN.rc (ci := 7) sh29 rc7) (ro_of (by decide) (by decide) (by decide) (by decide)) rfl rfl (Nat.le_of_ble_eq_true rfl) (dkAt dk_X4_parse 14 rfl) 29 rfl 0 0 rfl rfl ?_
  refine x_aload_n C rfl rfl (dkAt dk_X4_parse 15 rfl) 30 rfl ?_
  refine x_getS C lk_RX4_29 (hN.sh sh21) (hN.sr sr21_4) (dkAt dk_X4_parse 16 rfl) 33 rfl ?_
  refine x_iload_n C rfl rfl (dkAt dk_X4_parse 17 rfl) 34 rfl ?_
  obtain ⟨v8, M9, h30, hf⟩ := cl_inv hf
  refine x_cVv C (c_X2_begin hN h30) mw_X2_begin ln_RX4_43 mi_X2_begin (hN.rc (ci := 2) sh1 rc2) (ro_of (by decide) (by decide) (by decide) (by decide)) rfl rfl (Nat.le_of_ble_eq_true rfl) (dkAt dk_X4_parse 18 rfl) 37 rfl 0 0 rfl rfl ?_
  refine x_aload_n C rfl rfl (dkAt dk_X4_parse 19 rfl) 38 rfl ?_
  obtain ⟨v10, M11, h29, hf⟩ := cl_inv hf
  refine x_cVi C (c_X4_parseHead hN h29) mw_X4_parseHead ln_RX4_49 mi_X4_parseHead (hN.rc (ci := 4) sh21 rc4) (ro_of (by decide) (by decide) (by decide) (by decide)) rfl rfl (Nat.le_of_ble_eq_true rfl) (dkAt dk_X4_parse 20 rfl) 41 rfl 0 0 rfl rfl ?_
  refine x_if_ne C 46 (dkAt dk_X4_parse 21 rfl) 44 rfl (by decide) hf (fun hf => ?_) (fun hf => ?_)
  · refine x_iconst C (v := (0 : Int32)) (by decide) (dkAt dk_X4_parse 24 rfl) 47 rfl ?_
    refine x_istore_n C (L1 := [some (.ref (wad Γ 21)), some (.int p0), some (.int (0 : Int32))]) (dkAt dk_X4_parse 25 rfl) 48 rfl rfl (by decide) rfl ?_
    refine G.weak (L := [some (.ref (wad Γ 21)), none, some (.int (0 : Int32))]) ⟨rfl, rfl, trivial⟩ ?_
    refine l_X4_parse_L48 hN C E ?_ Z _ _ hf
    intro M21 hf
    refine x_aload_n C rfl rfl (dkAt dk_X4_parse 44 rfl) 89 rfl ?_
    refine x_getS C lk_RX4_29 (hN.sh sh21) (hN.sr sr21_4) (dkAt dk_X4_parse 45 rfl) 92 rfl ?_
    refine x_getI C lk_RX4_53 (hN.sh sh1) (dkAt dk_X4_parse 46 rfl) 95 rfl hf (fun v22 hf => ?_)
    refine x_if_ne C 105 (dkAt dk_X4_parse 47 rfl) 98 rfl (by decide) hf (fun hf => ?_) (fun hf => ?_)
    · refine x_aload_n C rfl rfl (dkAt dk_X4_parse 51 rfl) 106 rfl ?_
      refine x_iconst C (v := (1 : Int32)) (by decide) (dkAt dk_X4_parse 52 rfl) 107 rfl ?_
      obtain ⟨v23, M24, h25, hf⟩ := cl_inv hf
      refine x_cVi C (c_X4_fail hN h25) mw_X4_fail ln_RX4_65 mi_X4_fail (hN.rc (ci := 4) sh21 rc4) (ro_of (by decide) (by decide) (by decide) (by decide)) rfl rfl (Nat.le_of_ble_eq_true rfl) (dkAt dk_X4_parse 53 rfl) 110 rfl 0 0 rfl rfl ?_
      obtain ⟨hz, hf⟩ := if_some hf
      exact x_zret C E hz hf (by decide) (by decide) (dkAt dk_X4_parse 54 rfl)
    · refine x_aload_n C rfl rfl (dkAt dk_X4_parse 48 rfl) 99 rfl ?_
      obtain ⟨v26, M27, h28, hf⟩ := cl_inv hf
      refine x_cVi C (c_X4_checkStates hN h28) mw_X4_checkStates ln_RX4_62 mi_X4_checkStates (hN.rc (ci := 4) sh21 rc4) (ro_of (by decide) (by decide) (by decide) (by decide)) rfl rfl (Nat.le_of_ble_eq_true rfl) (dkAt dk_X4_parse 49 rfl) 102 rfl 0 0 rfl rfl ?_
      refine x_goto C 110 (dkAt dk_X4_parse 50 rfl) (by decide) ?_
      obtain ⟨hz, hf⟩ := if_some hf
      exact x_zret C E hz hf (by decide) (by decide) (dkAt dk_X4_parse 54 rfl)
  · refine x_iconst C (v := (0 : Int32)) (by decide) (dkAt dk_X4_parse 22 rfl) 45 rfl ?_
    exact x_zret C E (by decide) hf (by decide) (by decide) (dkAt dk_X4_parse 23 rfl)
def f_X5_forget (Z : Nat) (M : Mem)  : Option (Unit × Mem) :=
  bd (sI M (96) 5 (-1 : Int32)) (fun M1 => some ((), M1))
set_option maxRecDepth 100000 in
theorem c_X5_forget {Γ : WC} (hN : HN Γ) {Z : Nat} {M : Mem}  {rM : Unit × Mem}  (hf : f_X5_forget Z M  = some rM) : Ct Γ yX5_forget cX5_forget 1 none (rmL 0 0 0) [.ref (wad Γ 96)] M none rM.2 := by
  refine mkN hN.1 (own := RX5) rfl (by decide) (Nat.le_of_ble_eq_true rfl) (fun X C E => ?_)
  change G Γ X M 0 0 [some (.ref (wad Γ 96))] [] 0
  unfold f_X5_forget at hf
  refine x_aload_n C rfl rfl (dkAt dk_X5_forget 0 rfl) 1 rfl ?_
  refine x_iconst C (v := (-1 : Int32)) (by decide) (dkAt dk_X5_forget 1 rfl) 2 rfl ?_
  refine x_putI C pk_RX5_18 ⟨_, rfl⟩ (hN.sh sh96) (dkAt dk_X5_forget 2 rfl) 5 rfl hf (fun M1 hf => ?_)
  exact x_vret C E hf (by decide) (by decide) (dkAt dk_X5_forget 3 rfl)
def f_X5_begin (Z : Nat) (M : Mem)  : Option (Int32 × Mem) :=
  bd (sI M (96) 7 (0 : Int32)) (fun M1 => cl (f_J7_fill_53178 Z M1 (99) 6 (0 : Int32)) (fun v2 M3 => some ((1 : Int32), M3)))
set_option maxRecDepth 100000 in
theorem c_X5_begin {Γ : WC} (hN : HN Γ) {Z : Nat} {M : Mem}  {rM : Int32 × Mem}  (hf : f_X5_begin Z M  = some rM) : Ct Γ yX5_begin cX5_begin 1 (some .boolean) (rmL 1 0 0) [.ref (wad Γ 96)] M (some (.int rM.1)) rM.2 := by
  refine mkN hN.1 (own := RX5) rfl (by decide) (Nat.le_of_ble_eq_true rfl) (fun X C E => ?_)
  change G Γ X M 0 0 [some (.ref (wad Γ 96))] [] 0
  unfold f_X5_begin at hf
  refine x_aload_n C rfl rfl (dkAt dk_X5_begin 0 rfl) 1 rfl ?_
  refine x_iconst C (v := (0 : Int32)) (by decide) (dkAt dk_X5_begin 1 rfl) 2 rfl ?_
  refine x_putI C pk_RX5_63 ⟨_, rfl⟩ (hN.sh sh96) (dkAt dk_X5_begin 2 rfl) 5 rfl hf (fun M1 hf => ?_)
  refine x_aload_n C rfl rfl (dkAt dk_X5_begin 3 rfl) 6 rfl ?_
  refine x_getS C lk_RX5_25 (hN.sh sh96) (hN.sr sr96_8) (dkAt dk_X5_begin 4 rfl) 9 rfl ?_
  refine x_iconst C (v := (0 : Int32)) (by decide) (dkAt dk_X5_begin 5 rfl) 10 rfl ?_
  obtain ⟨v2, M3, h4, hf⟩ := cl_inv hf
  refine x_cSv C (c_J7_fill_53178 hN sh99 h4) mw_J7_fill_53178 ln_RX5_123 ms_J7_fill_53178 (ro_of (by decide) (by decide) (by decide) (by decide)) rfl rfl (Nat.le_of_ble_eq_true rfl) (dkAt dk_X5_begin 6 rfl) 13 rfl 0 0 rfl rfl ?_
  refine x_iconst C (v := (1 : Int32)) (by decide) (dkAt dk_X5_begin 7 rfl) 14 rfl ?_
  exact x_zret C E (by decide) hf (by decide) (by decide) (dkAt dk_X5_begin 8 rfl)
def f_X5_writeWeights_L2 (Z : Nat) (a : Nat) (w : Nat) : Nat → Int32 → Mem → Option (Unit × Mem)
  | 0, _, _ => none
  | n + 1, x1, M2 => bd (gI M2 (3) 0) (fun v3 => (if v3 ≤ x1 then some ((), M2) else cl (f_X11_setWeights Z M2 w x1 (0 : Int32) (0 : Int32) (0 : Int32)) (fun v4 M5 => rdI M5 a 6 x1 (fun v6 => cl (f_X11_rowOf Z M5 x1 v6) (fun v7 M8 => wrI M8 w 18 v7 (10 : Int32) (fun M9 => f_X5_writeWeights_L2 Z a w n (x1 + (1 : Int32)) M9))))))
def f_X5_writeWeights (Z : Nat) (M : Mem) (a : Nat) (w : Nat) : Option (Unit × Mem) :=
  f_X5_writeWeights_L2 Z a w Z (0 : Int32) M
set_option maxRecDepth 100000 in
theorem l_X5_writeWeights_L2 {Γ : WC} {X : MX} (hN : HN Γ) (C : CX Γ X cX5_writeWeights 4 RX5 none (rmL 2 0 0)) {rM : Unit × Mem} (E : EndN Γ X none rM.2 0 0) {Z : Nat} {a : Nat} {w : Nat} (h_a : SH[a]? = some (0, 6)) (h_w : SH[w]? = some (0, 18)) : ∀ (n : Nat) (x1 : Int32) (M2 : Mem), f_X5_writeWeights_L2 Z a w n x1 M2 = some rM → G Γ X M2 0 0 [some (.ref (wad Γ 96)), some (.ref (wad Γ a)), some (.ref (wad Γ w)), some (.int x1)] [] 2 := by
  intro n
  induction n with
  | zero =>
    intro x1 M2 hf
    have hf0 : (none : Option _) = some rM := hf
    cases hf0
  | succ n ih =>
    intro x1 M2 hf
    rw [f_X5_writeWeights_L2] at hf
    refine x_iload_n C rfl rfl (dkAt dk_X5_writeWeights 2 rfl) 3 rfl ?_
    refine x_aload_n C rfl rfl (dkAt dk_X5_writeWeights 3 rfl) 4 rfl ?_
    refine x_getS C lk_RX5_35 (hN.sh sh96) (hN.sr sr96_0) (dkAt dk_X5_writeWeights 4 rfl) 7 rfl ?_
    refine x_getI C lk_RX5_83 (hN.sh sh3) (dkAt dk_X5_writeWeights 5 rfl) 10 rfl hf (fun v3 hf => ?_)
    refine x_icmp_ge C 38 (dkAt dk_X5_writeWeights 6 rfl) 13 rfl (by decide) hf (fun hf => ?_) (fun hf => ?_)
    · exact x_vret C E hf (by decide) (by decide) (dkAt dk_X5_writeWeights 23 rfl)
    · refine x_aload_n C rfl rfl (dkAt dk_X5_writeWeights 7 rfl) 14 rfl ?_
      refine x_iload_n C rfl rfl (dkAt dk_X5_writeWeights 8 rfl) 15 rfl ?_
      refine x_iconst C (v := (0 : Int32)) (by decide) (dkAt dk_X5_writeWeights 9 rfl) 16 rfl ?_
      refine x_iconst C (v := (0 : Int32)) (by decide) (dkAt dk_X5_writeWeights 10 rfl) 17 rfl ?_
      refine x_iconst C (v := (0 : Int32)) (by decide) (dkAt dk_X5_writeWeights 11 rfl) 18 rfl ?_
      obtain ⟨v4, M5, h11, hf⟩ := cl_inv hf
      refine x_cNv C (c_X11_setWeights hN h_w h11) mw_X11_setWeights ln_RX5_88 ms_X11_setWeights (ro_of (by decide) (by decide) (by decide) (by decide)) rfl rfl (Nat.le_of_ble_eq_true rfl) (dkAt dk_X5_writeWeights 12 rfl) 21 rfl 0 0 rfl rfl ?_
      refine x_aload_n C rfl rfl (dkAt dk_X5_writeWeights 13 rfl) 22 rfl ?_
      refine x_iload_n C rfl rfl (dkAt dk_X5_writeWeights 14 rfl) 23 rfl ?_
      refine x_aload_n C rfl rfl (dkAt dk_X5_writeWeights 15 rfl) 24 rfl ?_
      refine x_iload_n C rfl rfl (dkAt dk_X5_writeWeights 16 rfl) 25 rfl ?_
      refine x_iald C (hN.sh h_a) (dkAt dk_X5_writeWeights 17 rfl) 26 rfl hf (fun v6 hf => ?_)
      obtain ⟨v7, M8, h10, hf⟩ := cl_inv hf
      refine x_cNi C (c_X11_rowOf hN h10) mw_X11_rowOf ln_RX5_92 ms_X11_rowOf (ro_of (by decide) (by decide) (by decide) (by decide)) rfl rfl (Nat.le_of_ble_eq_true rfl) (dkAt dk_X5_writeWeights 18 rfl) 29 rfl 0 0 rfl rfl ?_
      refine x_bipush C (v := (10 : Int32)) (by decide) (dkAt dk_X5_writeWeights 19 rfl) 31 rfl ?_
      refine x_iast C (hN.sh h_w) (dkAt dk_X5_writeWeights 20 rfl) 32 rfl hf (fun M9 hf => ?_)
      refine x_iinc C (v := (x1 + (1 : Int32))) (L1 := [some (.ref (wad Γ 96)), some (.ref (wad Γ a)), some (.ref (wad Γ w)), some (.int (x1 + (1 : Int32)))]) (dkAt dk_X5_writeWeights 21 rfl) 35 rfl rfl rfl (by decide) rfl ?_
      refine x_goto C 2 (dkAt dk_X5_writeWeights 22 rfl) (by decide) ?_
      exact G.weak (L := [some (.ref (wad Γ 96)), some (.ref (wad Γ a)), some (.ref (wad Γ w)), some (.int (x1 + (1 : Int32)))]) ⟨rfl, rfl, rfl, rfl, trivial⟩ (ih _ _ hf)
set_option maxRecDepth 100000 in
theorem c_X5_writeWeights {Γ : WC} (hN : HN Γ) {Z : Nat} {M : Mem} {a : Nat} {w : Nat} {rM : Unit × Mem} (h_a : SH[a]? = some (0, 6)) (h_w : SH[w]? = some (0, 18)) (hf : f_X5_writeWeights Z M a w = some rM) : Ct Γ yX5_writeWeights cX5_writeWeights 4 none (rmL 2 0 0) [.ref (wad Γ 96), .ref (wad Γ a), .ref (wad Γ w)] M none rM.2 := by
  refine mkN hN.1 (own := RX5) rfl (by decide) (Nat.le_of_ble_eq_true rfl) (fun X C E => ?_)
  change G Γ X M 0 0 [some (.ref (wad Γ 96)), some (.ref (wad Γ a)), some (.ref (wad Γ w))] [] 0
  unfold f_X5_writeWeights at hf
  refine x_iconst C (v := (0 : Int32)) (by decide) (dkAt dk_X5_writeWeights 0 rfl) 1 rfl ?_
  refine x_istore_n C (L1 := [some (.ref (wad Γ 96)), some (.ref (wad Γ a)), some (.ref (wad Γ w)), some (.int (0 : Int32))]) (dkAt dk_X5_writeWeights 1 rfl) 2 rfl rfl (by decide) rfl ?_
  refine G.weak (L := [some (.ref (wad Γ 96)), some (.ref (wad Γ a)), some (.ref (wad Γ w)), some (.int (0 : Int32))]) ⟨rfl, rfl, rfl, rfl, trivial⟩ ?_
  refine l_X5_writeWeights_L2 hN C E h_a h_w Z _ _ hf
def f_X5_moveOn_L10 (Z : Nat) (k : Int32 → Mem → Option (Int32 × Mem)) : Nat → Int32 → Mem → Option (Int32 × Mem)
  | 0, _, _ => none
  | n + 1, x2, M3 => (if x2 < 0 then some ((0 : Int32), M3) else rdI M3 99 6 x2 (fun v4 => rdI M3 4 6 x2 (fun v5 => (if v5 ≤ (v4 + (1 : Int32)) then wrI M3 99 6 x2 (0 : Int32) (fun M6 => f_X5_moveOn_L10 Z k n (x2 + (-1 : Int32)) M6) else k x2 M3))))
def f_X5_moveOn (Z : Nat) (M : Mem)  : Option (Int32 × Mem) :=
  bd (gI M (3) 0) (fun v1 => f_X5_moveOn_L10 Z (fun (y7 : Int32) (M8 : Mem) => rdI M8 99 6 y7 (fun v9 => wrI M8 99 6 y7 (v9 + (1 : Int32)) (fun M10 => bd (gI M10 (96) 7) (fun v11 => bd (sI M10 (96) 7 (v11 + (1 : Int32))) (fun M12 => bd (gI M12 (96) 7) (fun v13 => (if (729 : Int32) ≤ v13 then some ((0 : Int32), M12) else some ((1 : Int32), M12)))))))) Z (v1 - (1 : Int32)) M)
set_option maxRecDepth 100000 in
theorem l_X5_moveOn_L10 {Γ : WC} {X : MX} (hN : HN Γ) (C : CX Γ X cX5_moveOn 2 RX5 (some .boolean) (rmL 0 0 0)) {rM : Int32 × Mem} (E : EndN Γ X (some (.int rM.1)) rM.2 0 0) {Z : Nat} {k : Int32 → Mem → Option (Int32 × Mem)} (hk : ∀ (a1 : Int32) (Mx : Mem), k a1 Mx = some rM → G Γ X Mx 0 0 [some (.ref (wad Γ 96)), some (.int a1)] [] 34) : ∀ (n : Nat) (x2 : Int32) (M3 : Mem), f_X5_moveOn_L10 Z k n x2 M3 = some rM → G Γ X M3 0 0 [some (.ref (wad Γ 96)), some (.int x2)] [] 10 := by
  intro n
  induction n with
  | zero =>
    intro x2 M3 hf
    have hf0 : (none : Option _) = some rM := hf
    cases hf0
  | succ n ih =>
    intro x2 M3 hf
    rw [f_X5_moveOn_L10] at hf
    refine x_iload_n C rfl rfl (dkAt dk_X5_moveOn 6 rfl) 11 rfl ?_
    refine x_if_lt C 83 (dkAt dk_X5_moveOn 7 rfl) 14 rfl (by decide) hf (fun hf => ?_) (fun hf => ?_)
    · refine x_iconst C (v := (0 : Int32)) (by decide) (dkAt dk_X5_moveOn 49 rfl) 84 rfl ?_
      exact x_zret C E (by decide) hf (by decide) (by decide) (dkAt dk_X5_moveOn 50 rfl)
    · refine x_aload_n C rfl rfl (dkAt dk_X5_moveOn 8 rfl) 15 rfl ?_
      refine x_getS C lk_RX5_25 (hN.sh sh96) (hN.sr sr96_8) (dkAt dk_X5_moveOn 9 rfl) 18 rfl ?_
      refine x_iload_n C rfl rfl (dkAt dk_X5_moveOn 10 rfl) 19 rfl ?_
      refine x_iald C (hN.sh sh99) (dkAt dk_X5_moveOn 11 rfl) 20 rfl hf (fun v4 hf => ?_)
      refine x_iconst C (v := (1 : Int32)) (by decide) (dkAt dk_X5_moveOn 12 rfl) 21 rfl ?_
      refine x_iadd C (dkAt dk_X5_moveOn 13 rfl) 22 rfl ?_
      refine x_aload_n C rfl rfl (dkAt dk_X5_moveOn 14 rfl) 23 rfl ?_
      refine x_getS C lk_RX5_35 (hN.sh sh96) (hN.sr sr96_0) (dkAt dk_X5_moveOn 15 rfl) 26 rfl ?_
      refine x_getS C lk_RX5_128 (hN.sh sh3) (hN.sr sr3_2) (dkAt dk_X5_moveOn 16 rfl) 29 rfl ?_
      refine x_iload_n C rfl rfl (dkAt dk_X5_moveOn 17 rfl) 30 rfl ?_
      refine x_iald C (hN.sh sh4) (dkAt dk_X5_moveOn 18 rfl) 31 rfl hf (fun v5 hf => ?_)
      refine x_icmp_ge C 70 (dkAt dk_X5_moveOn 19 rfl) 34 rfl (by decide) hf (fun hf => ?_) (fun hf => ?_)
      · refine x_aload_n C rfl rfl (dkAt dk_X5_moveOn 42 rfl) 71 rfl ?_
        refine x_getS C lk_RX5_25 (hN.sh sh96) (hN.sr sr96_8) (dkAt dk_X5_moveOn 43 rfl) 74 rfl ?_
        refine x_iload_n C rfl rfl (dkAt dk_X5_moveOn 44 rfl) 75 rfl ?_
        refine x_iconst C (v := (0 : Int32)) (by decide) (dkAt dk_X5_moveOn 45 rfl) 76 rfl ?_
        refine x_iast C (hN.sh sh99) (dkAt dk_X5_moveOn 46 rfl) 77 rfl hf (fun M6 hf => ?_)
        refine x_iinc C (v := (x2 + (-1 : Int32))) (L1 := [some (.ref (wad Γ 96)), some (.int (x2 + (-1 : Int32)))]) (dkAt dk_X5_moveOn 47 rfl) 80 rfl rfl rfl (by decide) rfl ?_
        refine x_goto C 10 (dkAt dk_X5_moveOn 48 rfl) (by decide) ?_
        exact G.weak (L := [some (.ref (wad Γ 96)), some (.int (x2 + (-1 : Int32)))]) ⟨rfl, rfl, trivial⟩ (ih _ _ hf)
      · exact G.weak (L := [some (.ref (wad Γ 96)), some (.int x2)]) ⟨rfl, rfl, trivial⟩ (hk _ _ hf)
set_option maxRecDepth 100000 in
theorem c_X5_moveOn {Γ : WC} (hN : HN Γ) {Z : Nat} {M : Mem}  {rM : Int32 × Mem}  (hf : f_X5_moveOn Z M  = some rM) : Ct Γ yX5_moveOn cX5_moveOn 2 (some .boolean) (rmL 0 0 0) [.ref (wad Γ 96)] M (some (.int rM.1)) rM.2 := by
  refine mkN hN.1 (own := RX5) rfl (by decide) (Nat.le_of_ble_eq_true rfl) (fun X C E => ?_)
  change G Γ X M 0 0 [some (.ref (wad Γ 96))] [] 0
  unfold f_X5_moveOn at hf
  refine x_aload_n C rfl rfl (dkAt dk_X5_moveOn 0 rfl) 1 rfl ?_
  refine x_getS C lk_RX5_35 (hN.sh sh96) (hN.sr sr96_0) (dkAt dk_X5_moveOn 1 rfl) 4 rfl ?_
  refine x_getI C lk_RX5_83 (hN.sh sh3) (dkAt dk_X5_moveOn 2 rfl) 7 rfl hf (fun v1 hf => ?_)
  refine x_iconst C (v := (1 : Int32)) (by decide) (dkAt dk_X5_moveOn 3 rfl) 8 rfl ?_
  refine x_isub C (dkAt dk_X5_moveOn 4 rfl) 9 rfl ?_
  refine x_istore_n C (L1 := [some (.ref (wad Γ 96)), some (.int (v1 - (1 : Int32)))]) (dkAt dk_X5_moveOn 5 rfl) 10 rfl rfl (by decide) rfl ?_
  refine G.weak (L := [some (.ref (wad Γ 96)), some (.int (v1 - (1 : Int32)))]) ⟨rfl, rfl, trivial⟩ ?_
  refine l_X5_moveOn_L10 hN C E ?_ Z _ _ hf
  intro y7 M8 hf
  refine x_aload_n C rfl rfl (dkAt dk_X5_moveOn 20 rfl) 35 rfl ?_
  refine x_getS C lk_RX5_25 (hN.sh sh96) (hN.sr sr96_8) (dkAt dk_X5_moveOn 21 rfl) 38 rfl ?_
  refine x_iload_n C rfl rfl (dkAt dk_X5_moveOn 22 rfl) 39 rfl ?_
  refine x_dup2 C rfl rfl (dkAt dk_X5_moveOn 23 rfl) 40 rfl ?_
  refine x_iald C (hN.sh sh99) (dkAt dk_X5_moveOn 24 rfl) 41 rfl hf (fun v9 hf => ?_)
  refine x_iconst C (v := (1 : Int32)) (by decide) (dkAt dk_X5_moveOn 25 rfl) 42 rfl ?_
  refine x_iadd C (dkAt dk_X5_moveOn 26 rfl) 43 rfl ?_
  refine x_iast C (hN.sh sh99) (dkAt dk_X5_moveOn 27 rfl) 44 rfl hf (fun M10 hf => ?_)
  refine x_aload_n C rfl rfl (dkAt dk_X5_moveOn 28 rfl) 45 rfl ?_
  refine x_dup C rfl (dkAt dk_X5_moveOn 29 rfl) 46 rfl ?_
  refine x_getI C lk_RX5_63 (hN.sh sh96) (dkAt dk_X5_moveOn 30 rfl) 49 rfl hf (fun v11 hf => ?_)
  refine x_iconst C (v := (1 : Int32)) (by decide) (dkAt dk_X5_moveOn 31 rfl) 50 rfl ?_
  refine x_iadd C (dkAt dk_X5_moveOn 32 rfl) 51 rfl ?_
  refine x_putI C pk_RX5_63 ⟨_, rfl⟩ (hN.sh sh96) (dkAt dk_X5_moveOn 33 rfl) 54 rfl hf (fun M12 hf => ?_)
  refine x_aload_n C rfl rfl (dkAt dk_X5_moveOn 34 rfl) 55 rfl ?_
  refine x_getI C lk_RX5_63 (hN.sh sh96) (dkAt dk_X5_moveOn 35 rfl) 58 rfl hf (fun v13 hf => ?_)
  refine x_sipush C (v := (729 : Int32)) (by decide) (dkAt dk_X5_moveOn 36 rfl) 61 rfl ?_
  refine x_icmp_ge C 68 (dkAt dk_X5_moveOn 37 rfl) 64 rfl (by decide) hf (fun hf => ?_) (fun hf => ?_)
  · refine x_iconst C (v := (0 : Int32)) (by decide) (dkAt dk_X5_moveOn 40 rfl) 69 rfl ?_
    exact x_zret C E (by decide) hf (by decide) (by decide) (dkAt dk_X5_moveOn 41 rfl)
  · refine x_iconst C (v := (1 : Int32)) (by decide) (dkAt dk_X5_moveOn 38 rfl) 65 rfl ?_
    refine x_goto C 69 (dkAt dk_X5_moveOn 39 rfl) (by decide) ?_
    exact x_zret C E (by decide) hf (by decide) (by decide) (dkAt dk_X5_moveOn 41 rfl)
def f_X5_fill_L106 (Z : Nat) (x7 : Int32) (k : Mem → Option (Unit × Mem)) : Nat → Int32 → Mem → Option (Unit × Mem)
  | 0, _, _ => none
  | n + 1, x19, M20 => bd (gI M20 (3) 1) (fun v21 => (if v21 ≤ x19 then k M20 else bd (gI M20 (96) 7) (fun v22 => cl (f_X1_usedOf Z M20 (100) x19) (fun v23 M24 => wrL M24 98 2187 ((v22 * (3 : Int32)) + x19) v23 (fun M25 => f_X5_fill_L106 Z x7 k n (x19 + (1 : Int32)) M25)))))
def f_X5_fill_L36 (Z : Nat) (k : Mem → Option (Unit × Mem)) : Nat → Int32 → Int32 → Mem → Option (Unit × Mem)
  | 0, _, _, _ => none
  | n + 1, x6, x7, M8 => (if (729 : Int32) ≤ x7 then k M8 else (if x6 = 0 then k M8 else cl (f_X5_writeWeights Z M8 (99) (100)) (fun v9 M10 => bd (gI M10 (10) 3) (fun v11 => bd (gI M10 (10) 4) (fun v12 => cl (f_X1_follow Z M10 (100) v11 v12) (fun v13 M14 => bd (gI M14 (96) 7) (fun v15 => cl (f_X1_gainOf Z M14 (100)) (fun v16 M17 => wrL M17 97 729 v15 v16 (fun M18 => f_X5_fill_L106 Z x7 (fun (M27 : Mem) => cl (f_X5_moveOn Z M27) (fun v28 M29 => f_X5_fill_L36 Z k n v28 (x7 + (1 : Int32)) M29)) Z (0 : Int32) M18)))))))))
def f_X5_fill (Z : Nat) (M : Mem)  : Option (Unit × Mem) :=
  bd (gI M (96) 5) (fun v1 => bd (gI M (10) 3) (fun v2 => jn (fun (t3 : Unit) => cl (f_X5_begin Z M) (fun v4 M5 => f_X5_fill_L36 Z (fun (M34 : Mem) => bd (gI M34 (10) 3) (fun v35 => bd (sI M34 (96) 5 v35) (fun M36 => bd (gI M36 (10) 4) (fun v37 => bd (sI M36 (96) 6 v37) (fun M38 => some ((), M38)))))) Z v4 (0 : Int32) M5)) (fun j40 => (if v1 = v2 then bd (gI M (96) 6) (fun v41 => bd (gI M (10) 4) (fun v42 => (if v41 = v42 then some ((), M) else j40 ()))) else j40 ()))))
set_option maxRecDepth 100000 in
theorem l_X5_fill_L106 {Γ : WC} {X : MX} (hN : HN Γ) (C : CX Γ X cX5_fill 4 RX5 none (rmL 4 0 0)) {rM : Unit × Mem} (E : EndN Γ X none rM.2 0 0) {Z : Nat} {x7 : Int32} {k : Mem → Option (Unit × Mem)} (hk : ∀  (Mx : Mem), k Mx = some rM → G Γ X Mx 0 0 [some (.ref (wad Γ 96)), none, some (.int x7)] [] 148) : ∀ (n : Nat) (x19 : Int32) (M20 : Mem), f_X5_fill_L106 Z x7 k n x19 M20 = some rM → G Γ X M20 0 0 [some (.ref (wad Γ 96)), none, some (.int x7), some (.int x19)] [] 106 := by
  intro n
  induction n with
  | zero =>
    intro x19 M20 hf
    have hf0 : (none : Option _) = some rM := hf
    cases hf0
  | succ n ih =>
    intro x19 M20 hf
    rw [f_X5_fill_L106] at hf
    refine x_iload_n C rfl rfl (dkAt dk_X5_fill 52 rfl) 107 rfl ?_
    refine x_aload_n C rfl rfl (dkAt dk_X5_fill 53 rfl) 108 rfl ?_
    refine x_getS C lk_RX5_35 (hN.sh sh96) (hN.sr sr96_0) (dkAt dk_X5_fill 54 rfl) 111 rfl ?_
    refine x_getI C lk_RX5_116 (hN.sh sh3) (dkAt dk_X5_fill 55 rfl) 114 rfl hf (fun v21 hf => ?_)
    refine x_icmp_ge C 148 (dkAt dk_X5_fill 56 rfl) 117 rfl (by decide) hf (fun hf => ?_) (fun hf => ?_)
    · exact G.weak (L := [some (.ref (wad Γ 96)), none, some (.int x7)]) ⟨rfl, rfl, trivial⟩ (hk _ hf)
    · refine x_aload_n C rfl rfl (dkAt dk_X5_fill 57 rfl) 118 rfl ?_
      refine x_getS C lk_RX5_15 (hN.sh sh96) (hN.sr sr96_4) (dkAt dk_X5_fill 58 rfl) 121 rfl ?_
      refine x_aload_n C rfl rfl (dkAt dk_X5_fill 59 rfl) 122 rfl ?_
      refine x_getI C lk_RX5_63 (hN.sh sh96) (dkAt dk_X5_fill 60 rfl) 125 rfl hf (fun v22 hf => ?_)
      refine x_iconst C (v := (3 : Int32)) (by decide) (dkAt dk_X5_fill 61 rfl) 126 rfl ?_
      refine x_imul C (dkAt dk_X5_fill 62 rfl) 127 rfl ?_
      refine x_iload_n C rfl rfl (dkAt dk_X5_fill 63 rfl) 128 rfl ?_
      refine x_iadd C (dkAt dk_X5_fill 64 rfl) 129 rfl ?_
      refine x_aload_n C rfl rfl (dkAt dk_X5_fill 65 rfl) 130 rfl ?_
      refine x_getS C lk_RX5_43 (hN.sh sh96) (hN.sr sr96_2) (dkAt dk_X5_fill 66 rfl) 133 rfl ?_
      refine x_aload_n C rfl rfl (dkAt dk_X5_fill 67 rfl) 134 rfl ?_
      refine x_getS C lk_RX5_29 (hN.sh sh96) (hN.sr sr96_9) (dkAt dk_X5_fill 68 rfl) 137 rfl ?_
      refine x_iload_n C rfl rfl (dkAt dk_X5_fill 69 rfl) 138 rfl ?_
      obtain ⟨v23, M24, h26, hf⟩ := cl_inv hf
      refine x_cVl C (c_X1_usedOf hN sh100 h26) mw_X1_usedOf ln_RX5_119 mi_X1_usedOf (hN.rc (ci := 1) sh16 rc1) (ro_of (by decide) (by decide) (by decide) (by decide)) rfl rfl (Nat.le_of_ble_eq_true rfl) (dkAt dk_X5_fill 70 rfl) 141 rfl 0 0 rfl rfl ?_
      refine x_last C (hN.sh sh98) (dkAt dk_X5_fill 71 rfl) 142 rfl hf (fun M25 hf => ?_)
      refine x_iinc C (v := (x19 + (1 : Int32))) (L1 := [some (.ref (wad Γ 96)), none, some (.int x7), some (.int (x19 + (1 : Int32)))]) (dkAt dk_X5_fill 72 rfl) 145 rfl rfl rfl (by decide) rfl ?_
      refine x_goto C 106 (dkAt dk_X5_fill 73 rfl) (by decide) ?_
      exact G.weak (L := [some (.ref (wad Γ 96)), none, some (.int x7), some (.int (x19 + (1 : Int32)))]) ⟨rfl, rfl, rfl, trivial⟩ (ih _ _ hf)
set_option maxRecDepth 100000 in
theorem l_X5_fill_L36 {Γ : WC} {X : MX} (hN : HN Γ) (C : CX Γ X cX5_fill 4 RX5 none (rmL 4 0 0)) {rM : Unit × Mem} (E : EndN Γ X none rM.2 0 0) {Z : Nat} {k : Mem → Option (Unit × Mem)} (hk : ∀  (Mx : Mem), k Mx = some rM → G Γ X Mx 0 0 [some (.ref (wad Γ 96))] [] 159) : ∀ (n : Nat) (x6 : Int32) (x7 : Int32) (M8 : Mem), f_X5_fill_L36 Z k n x6 x7 M8 = some rM → G Γ X M8 0 0 [some (.ref (wad Γ 96)), some (.int x6), some (.int x7)] [] 36 := by
  intro n
  induction n with
  | zero =>
    intro x6 x7 M8 hf
    have hf0 : (none : Option _) = some rM := hf
    cases hf0
  | succ n ih =>
    intro x6 x7 M8 hf
    rw [f_X5_fill_L36] at hf
    refine x_iload_n C rfl rfl (dkAt dk_X5_fill 18 rfl) 37 rfl ?_
    refine x_sipush C (v := (729 : Int32)) (by decide) (dkAt dk_X5_fill 19 rfl) 40 rfl ?_
    refine x_icmp_ge C 159 (dkAt dk_X5_fill 20 rfl) 43 rfl (by decide) hf (fun hf => ?_) (fun hf => ?_)
    · exact G.weak (L := [some (.ref (wad Γ 96))]) ⟨rfl, trivial⟩ (hk _ hf)
    · refine x_iload_n C rfl rfl (dkAt dk_X5_fill 21 rfl) 44 rfl ?_
      refine x_if_eq C 159 (dkAt dk_X5_fill 22 rfl) 47 rfl (by decide) hf (fun hf => ?_) (fun hf => ?_)
      · exact G.weak (L := [some (.ref (wad Γ 96))]) ⟨rfl, trivial⟩ (hk _ hf)
      · refine x_aload_n C rfl rfl (dkAt dk_X5_fill 23 rfl) 48 rfl ?_
        refine x_aload_n C rfl rfl (dkAt dk_X5_fill 24 rfl) 49 rfl ?_
        refine x_getS C lk_RX5_25 (hN.sh sh96) (hN.sr sr96_8) (dkAt dk_X5_fill 25 rfl) 52 rfl ?_
        refine x_aload_n C rfl rfl (dkAt dk_X5_fill 26 rfl) 53 rfl ?_
        refine x_getS C lk_RX5_29 (hN.sh sh96) (hN.sr sr96_9) (dkAt dk_X5_fill 27 rfl) 56 rfl ?_
        obtain ⟨v9, M10, h33, hf⟩ := cl_inv hf
        refine x_cVv C (c_X5_writeWeights hN sh99 sh100 h33) mw_X5_writeWeights ln_RX5_103 mi_X5_writeWeights (hN.rc (ci := 5) sh96 rc5) (ro_of (by decide) (by decide) (by decide) (by decide)) rfl rfl (Nat.le_of_ble_eq_true rfl) (dkAt dk_X5_fill 28 rfl) 59 rfl 0 0 rfl rfl ?_
        refine x_aload_n C rfl rfl (dkAt dk_X5_fill 29 rfl) 60 rfl ?_
        refine x_getS C lk_RX5_43 (hN.sh sh96) (hN.sr sr96_2) (dkAt dk_X5_fill 30 rfl) 63 rfl ?_
        refine x_aload_n C rfl rfl (dkAt dk_X5_fill 31 rfl) 64 rfl ?_
        refine x_getS C lk_RX5_29 (hN.sh sh96) (hN.sr sr96_9) (dkAt dk_X5_fill 32 rfl) 67 rfl ?_
        refine x_aload_n C rfl rfl (dkAt dk_X5_fill 33 rfl) 68 rfl ?_
        refine x_getS C lk_RX5_39 (hN.sh sh96) (hN.sr sr96_1) (dkAt dk_X5_fill 34 rfl) 71 rfl ?_
        refine x_getI C lk_RX5_95 (hN.sh sh10) (dkAt dk_X5_fill 35 rfl) 74 rfl hf (fun v11 hf => ?_)
        refine x_aload_n C rfl rfl (dkAt dk_X5_fill 36 rfl) 75 rfl ?_
        refine x_getS C lk_RX5_39 (hN.sh sh96) (hN.sr sr96_1) (dkAt dk_X5_fill 37 rfl) 78 rfl ?_
        refine x_getI C lk_RX5_100 (hN.sh sh10) (dkAt dk_X5_fill 38 rfl) 81 rfl hf (fun v12 hf => ?_)
        obtain ⟨v13, M14, h32, hf⟩ := cl_inv hf
        refine x_cVv C (c_X1_follow hN sh100 h32) mw_X1_follow ln_RX5_106 mi_X1_follow (hN.rc (ci := 1) sh16 rc1) (ro_of (by decide) (by decide) (by decide) (by decide)) rfl rfl (Nat.le_of_ble_eq_true rfl) (dkAt dk_X5_fill 39 rfl) 84 rfl 0 0 rfl rfl ?_
        refine x_aload_n C rfl rfl (dkAt dk_X5_fill 40 rfl) 85 rfl ?_
        refine x_getS C lk_RX5_9 (hN.sh sh96) (hN.sr sr96_3) (dkAt dk_X5_fill 41 rfl) 88 rfl ?_
        refine x_aload_n C rfl rfl (dkAt dk_X5_fill 42 rfl) 89 rfl ?_
        refine x_getI C lk_RX5_63 (hN.sh sh96) (dkAt dk_X5_fill 43 rfl) 92 rfl hf (fun v15 hf => ?_)
        refine x_aload_n C rfl rfl (dkAt dk_X5_fill 44 rfl) 93 rfl ?_
        refine x_getS C lk_RX5_43 (hN.sh sh96) (hN.sr sr96_2) (dkAt dk_X5_fill 45 rfl) 96 rfl ?_
        refine x_aload_n C rfl rfl (dkAt dk_X5_fill 46 rfl) 97 rfl ?_
        refine x_getS C lk_RX5_29 (hN.sh sh96) (hN.sr sr96_9) (dkAt dk_X5_fill 47 rfl) 100 rfl ?_
        obtain ⟨v16, M17, h31, hf⟩ := cl_inv hf
        refine x_cVl C (c_X1_gainOf hN sh100 h31) mw_X1_gainOf ln_RX5_112 mi_X1_gainOf (hN.rc (ci := 1) sh16 rc1) (ro_of (by decide) (by decide) (by decide) (by decide)) rfl rfl (Nat.le_of_ble_eq_true rfl) (dkAt dk_X5_fill 48 rfl) 103 rfl 0 0 rfl rfl ?_
        refine x_last C (hN.sh sh97) (dkAt dk_X5_fill 49 rfl) 104 rfl hf (fun M18 hf => ?_)
        refine x_iconst C (v := (0 : Int32)) (by decide) (dkAt dk_X5_fill 50 rfl) 105 rfl ?_
        refine x_istore_n C (L1 := [some (.ref (wad Γ 96)), some (.int x6), some (.int x7), some (.int (0 : Int32))]) (dkAt dk_X5_fill 51 rfl) 106 rfl rfl (by decide) rfl ?_
        refine G.weak (L := [some (.ref (wad Γ 96)), none, some (.int x7), some (.int (0 : Int32))]) ⟨rfl, rfl, rfl, trivial⟩ ?_
        refine l_X5_fill_L106 hN C E ?_ Z _ _ hf
        intro M27 hf
        refine x_aload_n C rfl rfl (dkAt dk_X5_fill 74 rfl) 149 rfl ?_
        obtain ⟨v28, M29, h30, hf⟩ := cl_inv hf
        refine x_cVi C (c_X5_moveOn hN h30) mw_X5_moveOn ln_RX5_70 mi_X5_moveOn (hN.rc (ci := 5) sh96 rc5) (ro_of (by decide) (by decide) (by decide) (by decide)) rfl rfl (Nat.le_of_ble_eq_true rfl) (dkAt dk_X5_fill 75 rfl) 152 rfl 0 0 rfl rfl ?_
        refine x_istore_n C (L1 := [some (.ref (wad Γ 96)), some (.int v28), some (.int x7)]) (dkAt dk_X5_fill 76 rfl) 153 rfl rfl (by decide) rfl ?_
        refine x_iinc C (v := (x7 + (1 : Int32))) (L1 := [some (.ref (wad Γ 96)), some (.int v28), some (.int (x7 + (1 : Int32)))]) (dkAt dk_X5_fill 77 rfl) 156 rfl rfl rfl (by decide) rfl ?_
        refine x_goto C 36 (dkAt dk_X5_fill 78 rfl) (by decide) ?_
        exact G.weak (L := [some (.ref (wad Γ 96)), some (.int v28), some (.int (x7 + (1 : Int32)))]) ⟨rfl, rfl, rfl, trivial⟩ (ih _ _ _ hf)
set_option maxRecDepth 100000 in
theorem c_X5_fill {Γ : WC} (hN : HN Γ) {Z : Nat} {M : Mem}  {rM : Unit × Mem}  (hf : f_X5_fill Z M  = some rM) : Ct Γ yX5_fill cX5_fill 4 none (rmL 4 0 0) [.ref (wad Γ 96)] M none rM.2 := by
  refine mkN hN.1 (own := RX5) rfl (by decide) (Nat.le_of_ble_eq_true rfl) (fun X C E => ?_)
  change G Γ X M 0 0 [some (.ref (wad Γ 96))] [] 0
  unfold f_X5_fill at hf
  refine x_aload_n C rfl rfl (dkAt dk_X5_fill 0 rfl) 1 rfl ?_
  refine x_getI C lk_RX5_18 (hN.sh sh96) (dkAt dk_X5_fill 1 rfl) 4 rfl hf (fun v1 hf => ?_)
  refine x_aload_n C rfl rfl (dkAt dk_X5_fill 2 rfl) 5 rfl ?_
  refine x_getS C lk_RX5_39 (hN.sh sh96) (hN.sr sr96_1) (dkAt dk_X5_fill 3 rfl) 8 rfl ?_
  refine x_getI C lk_RX5_95 (hN.sh sh10) (dkAt dk_X5_fill 4 rfl) 11 rfl hf (fun v2 hf => ?_)
  refine x_join hf (fun t3 => G Γ X M 0 0 [some (.ref (wad Γ 96))] [] 29) (fun t3 hf => ?_) (fun j40 hj40 hf => ?_)
  · refine x_aload_n C rfl rfl (dkAt dk_X5_fill 13 rfl) 30 rfl ?_
    obtain ⟨v4, M5, h39, hf⟩ := cl_inv hf
    refine x_cVi C (c_X5_begin hN h39) mw_X5_begin ln_RX5_52 mi_X5_begin (hN.rc (ci := 5) sh96 rc5) (ro_of (by decide) (by decide) (by decide) (by decide)) rfl rfl (Nat.le_of_ble_eq_true rfl) (dkAt dk_X5_fill 14 rfl) 33 rfl 0 0 rfl rfl ?_
    refine x_istore_n C (L1 := [some (.ref (wad Γ 96)), some (.int v4)]) (dkAt dk_X5_fill 15 rfl) 34 rfl rfl (by decide) rfl ?_
    refine x_iconst C (v := (0 : Int32)) (by decide) (dkAt dk_X5_fill 16 rfl) 35 rfl ?_
    refine x_istore_n C (L1 := [some (.ref (wad Γ 96)), some (.int v4), some (.int (0 : Int32))]) (dkAt dk_X5_fill 17 rfl) 36 rfl rfl (by decide) rfl ?_
    refine G.weak (L := [some (.ref (wad Γ 96)), some (.int v4), some (.int (0 : Int32))]) ⟨rfl, rfl, rfl, trivial⟩ ?_
    refine l_X5_fill_L36 hN C E ?_ Z _ _ _ hf
    intro M34 hf
    refine x_aload_n C rfl rfl (dkAt dk_X5_fill 79 rfl) 160 rfl ?_
    refine x_aload_n C rfl rfl (dkAt dk_X5_fill 80 rfl) 161 rfl ?_
    refine x_getS C lk_RX5_39 (hN.sh sh96) (hN.sr sr96_1) (dkAt dk_X5_fill 81 rfl) 164 rfl ?_
    refine x_getI C lk_RX5_95 (hN.sh sh10) (dkAt dk_X5_fill 82 rfl) 167 rfl hf (fun v35 hf => ?_)
    refine x_putI C pk_RX5_18 ⟨_, rfl⟩ (hN.sh sh96) (dkAt dk_X5_fill 83 rfl) 170 rfl hf (fun M36 hf => ?_)
    refine x_aload_n C rfl rfl (dkAt dk_X5_fill 84 rfl) 171 rfl ?_
    refine x_aload_n C rfl rfl (dkAt dk_X5_fill 85 rfl) 172 rfl ?_
    refine x_getS C lk_RX5_39 (hN.sh sh96) (hN.sr sr96_1) (dkAt dk_X5_fill 86 rfl) 175 rfl ?_
    refine x_getI C lk_RX5_100 (hN.sh sh10) (dkAt dk_X5_fill 87 rfl) 178 rfl hf (fun v37 hf => ?_)
    refine x_putI C pk_RX5_22 ⟨_, rfl⟩ (hN.sh sh96) (dkAt dk_X5_fill 88 rfl) 181 rfl hf (fun M38 hf => ?_)
    exact x_vret C E hf (by decide) (by decide) (dkAt dk_X5_fill 89 rfl)
  · refine x_icmp_ne C 29 (dkAt dk_X5_fill 5 rfl) 14 rfl (by decide) hf (fun hf => ?_) (fun hf => ?_)
    · exact G.weak (L := [some (.ref (wad Γ 96))]) ⟨rfl, trivial⟩ (hj40 _ hf)
    · refine x_aload_n C rfl rfl (dkAt dk_X5_fill 6 rfl) 15 rfl ?_
      refine x_getI C lk_RX5_22 (hN.sh sh96) (dkAt dk_X5_fill 7 rfl) 18 rfl hf (fun v41 hf => ?_)
      refine x_aload_n C rfl rfl (dkAt dk_X5_fill 8 rfl) 19 rfl ?_
      refine x_getS C lk_RX5_39 (hN.sh sh96) (hN.sr sr96_1) (dkAt dk_X5_fill 9 rfl) 22 rfl ?_
      refine x_getI C lk_RX5_100 (hN.sh sh10) (dkAt dk_X5_fill 10 rfl) 25 rfl hf (fun v42 hf => ?_)
      refine x_icmp_ne C 29 (dkAt dk_X5_fill 11 rfl) 28 rfl (by decide) hf (fun hf => ?_) (fun hf => ?_)
      · exact G.weak (L := [some (.ref (wad Γ 96))]) ⟨rfl, trivial⟩ (hj40 _ hf)
      · exact x_vret C E hf (by decide) (by decide) (dkAt dk_X5_fill 12 rfl)
def f_X7_permits (Z : Nat) (M : Mem) (o : Nat) (p0 : Int32) (p1 : Int32) : Option (Int32 × Mem) :=
  rdI M (o + 2) 6 p0 (fun v1 => (if ((v1 >>> (p1 &&& 31)) &&& (1 : Int32)) = (1 : Int32) then some ((1 : Int32), M) else some ((0 : Int32), M)))
set_option maxRecDepth 100000 in
theorem c_X7_permits {Γ : WC} (hN : HN Γ) {Z : Nat} {M : Mem} {o : Nat} {p0 : Int32} {p1 : Int32} {rM : Int32 × Mem} (h_o : SH[o]? = some (13, 9)) (hf : f_X7_permits Z M o p0 p1 = some rM) : Ct Γ yX7_permits cX7_permits 3 (some .boolean) (rmL 0 0 0) [.ref (wad Γ o), .int p0, .int p1] M (some (.int rM.1)) rM.2 := by
  refine mkN hN.1 (own := RX7) rfl (by decide) (Nat.le_of_ble_eq_true rfl) (fun X C E => ?_)
  change G Γ X M 0 0 [some (.ref (wad Γ o)), some (.int p0), some (.int p1)] [] 0
  unfold f_X7_permits at hf
  refine x_aload_n C rfl rfl (dkAt dk_X7_permits 0 rfl) 1 rfl ?_
  refine x_getS C lk_RX7_15 (hN.sh h_o) (hN.sr (sr_7_1 h_o)) (dkAt dk_X7_permits 1 rfl) 4 rfl ?_
  refine x_iload_n C rfl rfl (dkAt dk_X7_permits 2 rfl) 5 rfl ?_
  refine x_iald C (hN.sh (sh_7_1 h_o)) (dkAt dk_X7_permits 3 rfl) 6 rfl hf (fun v1 hf => ?_)
  refine x_iload_n C rfl rfl (dkAt dk_X7_permits 4 rfl) 7 rfl ?_
  refine x_ishr C (dkAt dk_X7_permits 5 rfl) 8 rfl ?_
  refine x_iconst C (v := (1 : Int32)) (by decide) (dkAt dk_X7_permits 6 rfl) 9 rfl ?_
  refine x_iand C (dkAt dk_X7_permits 7 rfl) 10 rfl ?_
  refine x_iconst C (v := (1 : Int32)) (by decide) (dkAt dk_X7_permits 8 rfl) 11 rfl ?_
  refine x_icmp_ne C 18 (dkAt dk_X7_permits 9 rfl) 14 rfl (by decide) hf (fun hf => ?_) (fun hf => ?_)
  · refine x_iconst C (v := (0 : Int32)) (by decide) (dkAt dk_X7_permits 12 rfl) 19 rfl ?_
    exact x_zret C E (by decide) hf (by decide) (by decide) (dkAt dk_X7_permits 13 rfl)
  · refine x_iconst C (v := (1 : Int32)) (by decide) (dkAt dk_X7_permits 10 rfl) 15 rfl ?_
    refine x_goto C 19 (dkAt dk_X7_permits 11 rfl) (by decide) ?_
    exact x_zret C E (by decide) hf (by decide) (by decide) (dkAt dk_X7_permits 13 rfl)
def f_X5_isPermittedSet_L2 (Z : Nat) : Nat → Int32 → Mem → Option (Int32 × Mem)
  | 0, _, _ => none
  | n + 1, x1, M2 => bd (gI M2 (3) 0) (fun v3 => (if v3 ≤ x1 then some ((1 : Int32), M2) else rdI M2 99 6 x1 (fun v4 => cl (f_X7_permits Z M2 (10) x1 v4) (fun v5 M6 => (if v5 = 0 then some ((0 : Int32), M6) else f_X5_isPermittedSet_L2 Z n (x1 + (1 : Int32)) M6)))))
def f_X5_isPermittedSet (Z : Nat) (M : Mem)  : Option (Int32 × Mem) :=
  f_X5_isPermittedSet_L2 Z Z (0 : Int32) M
set_option maxRecDepth 100000 in
theorem l_X5_isPermittedSet_L2 {Γ : WC} {X : MX} (hN : HN Γ) (C : CX Γ X cX5_isPermittedSet 2 RX5 (some .boolean) (rmL 1 0 0)) {rM : Int32 × Mem} (E : EndN Γ X (some (.int rM.1)) rM.2 0 0) {Z : Nat} : ∀ (n : Nat) (x1 : Int32) (M2 : Mem), f_X5_isPermittedSet_L2 Z n x1 M2 = some rM → G Γ X M2 0 0 [some (.ref (wad Γ 96)), some (.int x1)] [] 2 := by
  intro n
  induction n with
  | zero =>
    intro x1 M2 hf
    have hf0 : (none : Option _) = some rM := hf
    cases hf0
  | succ n ih =>
    intro x1 M2 hf
    rw [f_X5_isPermittedSet_L2] at hf
    refine x_iload_n C rfl rfl (dkAt dk_X5_isPermittedSet 2 rfl) 3 rfl ?_
    refine x_aload_n C rfl rfl (dkAt dk_X5_isPermittedSet 3 rfl) 4 rfl ?_
    refine x_getS C lk_RX5_35 (hN.sh sh96) (hN.sr sr96_0) (dkAt dk_X5_isPermittedSet 4 rfl) 7 rfl ?_
    refine x_getI C lk_RX5_83 (hN.sh sh3) (dkAt dk_X5_isPermittedSet 5 rfl) 10 rfl hf (fun v3 hf => ?_)
    refine x_icmp_ge C 38 (dkAt dk_X5_isPermittedSet 6 rfl) 13 rfl (by decide) hf (fun hf => ?_) (fun hf => ?_)
    · refine x_iconst C (v := (1 : Int32)) (by decide) (dkAt dk_X5_isPermittedSet 20 rfl) 39 rfl ?_
      exact x_zret C E (by decide) hf (by decide) (by decide) (dkAt dk_X5_isPermittedSet 21 rfl)
    · refine x_aload_n C rfl rfl (dkAt dk_X5_isPermittedSet 7 rfl) 14 rfl ?_
      refine x_getS C lk_RX5_39 (hN.sh sh96) (hN.sr sr96_1) (dkAt dk_X5_isPermittedSet 8 rfl) 17 rfl ?_
      refine x_iload_n C rfl rfl (dkAt dk_X5_isPermittedSet 9 rfl) 18 rfl ?_
      refine x_aload_n C rfl rfl (dkAt dk_X5_isPermittedSet 10 rfl) 19 rfl ?_
      refine x_getS C lk_RX5_25 (hN.sh sh96) (hN.sr sr96_8) (dkAt dk_X5_isPermittedSet 11 rfl) 22 rfl ?_
      refine x_iload_n C rfl rfl (dkAt dk_X5_isPermittedSet 12 rfl) 23 rfl ?_
      refine x_iald C (hN.sh sh99) (dkAt dk_X5_isPermittedSet 13 rfl) 24 rfl hf (fun v4 hf => ?_)
      obtain ⟨v5, M6, h7, hf⟩ := cl_inv hf
      refine x_cVi C (c_X7_permits hN sh10 h7) mw_X7_permits ln_RX5_131 mi_X7_permits (hN.rc (ci := 7) sh10 rc7) (ro_of (by decide) (by decide) (by decide) (by decide)) rfl rfl (Nat.le_of_ble_eq_true rfl) (dkAt dk_X5_isPermittedSet 14 rfl) 27 rfl 0 0 rfl rfl ?_
      refine x_if_ne C 32 (dkAt dk_X5_isPermittedSet 15 rfl) 30 rfl (by decide) hf (fun hf => ?_) (fun hf => ?_)
      · refine x_iinc C (v := (x1 + (1 : Int32))) (L1 := [some (.ref (wad Γ 96)), some (.int (x1 + (1 : Int32)))]) (dkAt dk_X5_isPermittedSet 18 rfl) 35 rfl rfl rfl (by decide) rfl ?_
        refine x_goto C 2 (dkAt dk_X5_isPermittedSet 19 rfl) (by decide) ?_
        exact G.weak (L := [some (.ref (wad Γ 96)), some (.int (x1 + (1 : Int32)))]) ⟨rfl, rfl, trivial⟩ (ih _ _ hf)
      · refine x_iconst C (v := (0 : Int32)) (by decide) (dkAt dk_X5_isPermittedSet 16 rfl) 31 rfl ?_
        exact x_zret C E (by decide) hf (by decide) (by decide) (dkAt dk_X5_isPermittedSet 17 rfl)
set_option maxRecDepth 100000 in
theorem c_X5_isPermittedSet {Γ : WC} (hN : HN Γ) {Z : Nat} {M : Mem}  {rM : Int32 × Mem}  (hf : f_X5_isPermittedSet Z M  = some rM) : Ct Γ yX5_isPermittedSet cX5_isPermittedSet 2 (some .boolean) (rmL 1 0 0) [.ref (wad Γ 96)] M (some (.int rM.1)) rM.2 := by
  refine mkN hN.1 (own := RX5) rfl (by decide) (Nat.le_of_ble_eq_true rfl) (fun X C E => ?_)
  change G Γ X M 0 0 [some (.ref (wad Γ 96))] [] 0
  unfold f_X5_isPermittedSet at hf
  refine x_iconst C (v := (0 : Int32)) (by decide) (dkAt dk_X5_isPermittedSet 0 rfl) 1 rfl ?_
  refine x_istore_n C (L1 := [some (.ref (wad Γ 96)), some (.int (0 : Int32))]) (dkAt dk_X5_isPermittedSet 1 rfl) 2 rfl rfl (by decide) rfl ?_
  refine G.weak (L := [some (.ref (wad Γ 96)), some (.int (0 : Int32))]) ⟨rfl, rfl, trivial⟩ ?_
  refine l_X5_isPermittedSet_L2 hN C E Z _ _ hf
def f_X11_unitOf_L6 (Z : Nat) (M : Mem) (p0 : Int32) : Nat → Int64 → Int32 → Option (Int64 × Mem)
  | 0, _, _ => none
  | n + 1, x1, x2 => (if p0 ≤ x2 then some (x1, M) else f_X11_unitOf_L6 Z M p0 n (x1 * (1000 : Int64)) (x2 + (1 : Int32)))
def f_X11_unitOf (Z : Nat) (M : Mem) (p0 : Int32) : Option (Int64 × Mem) :=
  f_X11_unitOf_L6 Z M p0 Z (10 : Int64) (1 : Int32)
set_option maxRecDepth 100000 in
theorem l_X11_unitOf_L6 {Γ : WC} {X : MX} (hN : HN Γ) (C : CX Γ X cX11_unitOf 4 RX11 (some .long) (rmL 0 0 0)) {rM : Int64 × Mem} (E : EndN Γ X (some (.long rM.1)) rM.2 0 0) {Z : Nat} {M : Mem} {p0 : Int32} : ∀ (n : Nat) (x1 : Int64) (x2 : Int32), f_X11_unitOf_L6 Z M p0 n x1 x2 = some rM → G Γ X M 0 0 [some (.int p0), some (.long x1), none, some (.int x2)] [] 6 := by
  intro n
  induction n with
  | zero =>
    intro x1 x2 hf
    have hf0 : (none : Option _) = some rM := hf
    cases hf0
  | succ n ih =>
    intro x1 x2 hf
    rw [f_X11_unitOf_L6] at hf
    refine x_iload_n C rfl rfl (dkAt dk_X11_unitOf 4 rfl) 7 rfl ?_
    refine x_iload_n C rfl rfl (dkAt dk_X11_unitOf 5 rfl) 8 rfl ?_
    refine x_icmp_ge C 23 (dkAt dk_X11_unitOf 6 rfl) 11 rfl (by decide) hf (fun hf => ?_) (fun hf => ?_)
    · refine x_lload_n C rfl rfl (dkAt dk_X11_unitOf 13 rfl) 24 rfl ?_
      exact x_lret C E hf (by decide) (by decide) (dkAt dk_X11_unitOf 14 rfl)
    · refine x_lload_n C rfl rfl (dkAt dk_X11_unitOf 7 rfl) 12 rfl ?_
      refine x_ldc2 C (v := (1000 : Int64)) cl_RX11_406 (dkAt dk_X11_unitOf 8 rfl) 15 rfl ?_
      refine x_lmul C (dkAt dk_X11_unitOf 9 rfl) 16 rfl ?_
      refine x_lstore_n C (L1 := [some (.int p0), some (.long (x1 * (1000 : Int64))), none, some (.int x2)]) (dkAt dk_X11_unitOf 10 rfl) 17 rfl rfl (by decide) rfl ?_
      refine x_iinc C (v := (x2 + (1 : Int32))) (L1 := [some (.int p0), some (.long (x1 * (1000 : Int64))), none, some (.int (x2 + (1 : Int32)))]) (dkAt dk_X11_unitOf 11 rfl) 20 rfl rfl rfl (by decide) rfl ?_
      refine x_goto C 6 (dkAt dk_X11_unitOf 12 rfl) (by decide) ?_
      exact G.weak (L := [some (.int p0), some (.long (x1 * (1000 : Int64))), none, some (.int (x2 + (1 : Int32)))]) ⟨rfl, rfl, rfl, trivial⟩ (ih _ _ hf)
set_option maxRecDepth 100000 in
theorem c_X11_unitOf {Γ : WC} (hN : HN Γ) {Z : Nat} {M : Mem} {p0 : Int32} {rM : Int64 × Mem}  (hf : f_X11_unitOf Z M p0 = some rM) : Ct Γ yX11_unitOf cX11_unitOf 4 (some .long) (rmL 0 0 0) [.int p0] M (some (.long rM.1)) rM.2 := by
  refine mkN hN.1 (own := RX11) rfl (by decide) (Nat.le_of_ble_eq_true rfl) (fun X C E => ?_)
  change G Γ X M 0 0 [some (.int p0)] [] 0
  unfold f_X11_unitOf at hf
  refine x_ldc2 C (v := (10 : Int64)) cl_RX11_404 (dkAt dk_X11_unitOf 0 rfl) 3 rfl ?_
  refine x_lstore_n C (L1 := [some (.int p0), some (.long (10 : Int64))]) (dkAt dk_X11_unitOf 1 rfl) 4 rfl rfl (by decide) rfl ?_
  refine x_iconst C (v := (1 : Int32)) (by decide) (dkAt dk_X11_unitOf 2 rfl) 5 rfl ?_
  refine x_istore_n C (L1 := [some (.int p0), some (.long (10 : Int64)), none, some (.int (1 : Int32))]) (dkAt dk_X11_unitOf 3 rfl) 6 rfl rfl (by decide) rfl ?_
  refine G.weak (L := [some (.int p0), some (.long (10 : Int64)), none, some (.int (1 : Int32))]) ⟨rfl, rfl, rfl, trivial⟩ ?_
  refine l_X11_unitOf_L6 hN C E Z _ _ hf
def f_X5_holds_L14 (Z : Nat) (p0 : Int32) (p1 : Int32) (v2 : Int64) (M3 : Mem) : Nat → Int32 → Option (Int32 × Mem)
  | 0, _ => none
  | n + 1, x4 => bd (gI M3 (3) 1) (fun v5 => (if v5 ≤ x4 then some ((1 : Int32), M3) else jn (fun (t6 : Int32) => bd (gI M3 (96) 7) (fun v7 => rdL M3 98 2187 ((v7 * (3 : Int32)) + x4) (fun v8 => (if v8 ≤ (t6.toInt64 * v2) then f_X5_holds_L14 Z p0 p1 v2 M3 n (x4 + (1 : Int32)) else some ((0 : Int32), M3))))) (fun j9 => (if x4 = p0 then rdI M3 13 3 x4 (fun v11 => j9 (v11 + p1)) else rdI M3 13 3 x4 (fun v10 => j9 v10)))))
def f_X5_holds (Z : Nat) (M : Mem) (p0 : Int32) (p1 : Int32) : Option (Int32 × Mem) :=
  bd (gI M (10) 4) (fun v1 => cl (f_X11_unitOf Z M v1) (fun v2 M3 => f_X5_holds_L14 Z p0 p1 v2 M3 Z (0 : Int32)))
set_option maxRecDepth 100000 in
theorem l_X5_holds_L14 {Γ : WC} {X : MX} (hN : HN Γ) (C : CX Γ X cX5_holds 7 RX5 (some .boolean) (rmL 1 0 0)) {rM : Int32 × Mem} (E : EndN Γ X (some (.int rM.1)) rM.2 0 0) {Z : Nat} {p0 : Int32} {p1 : Int32} {v2 : Int64} {M3 : Mem} : ∀ (n : Nat) (x4 : Int32), f_X5_holds_L14 Z p0 p1 v2 M3 n x4 = some rM → G Γ X M3 0 0 [some (.ref (wad Γ 96)), some (.int p0), some (.int p1), some (.long v2), none, some (.int x4)] [] 14 := by
  intro n
  induction n with
  | zero =>
    intro x4 hf
    have hf0 : (none : Option _) = some rM := hf
    cases hf0
  | succ n ih =>
    intro x4 hf
    rw [f_X5_holds_L14] at hf
    refine x_iload C rfl (dkAt dk_X5_holds 7 rfl) 16 rfl ?_
    refine x_aload_n C rfl rfl (dkAt dk_X5_holds 8 rfl) 17 rfl ?_
    refine x_getS C lk_RX5_35 (hN.sh sh96) (hN.sr sr96_0) (dkAt dk_X5_holds 9 rfl) 20 rfl ?_
    refine x_getI C lk_RX5_116 (hN.sh sh3) (dkAt dk_X5_holds 10 rfl) 23 rfl hf (fun v5 hf => ?_)
    refine x_icmp_ge C 90 (dkAt dk_X5_holds 11 rfl) 26 rfl (by decide) hf (fun hf => ?_) (fun hf => ?_)
    · refine x_iconst C (v := (1 : Int32)) (by decide) (dkAt dk_X5_holds 48 rfl) 91 rfl ?_
      exact x_zret C E (by decide) hf (by decide) (by decide) (dkAt dk_X5_holds 49 rfl)
    · refine x_iload C rfl (dkAt dk_X5_holds 12 rfl) 28 rfl ?_
      refine x_iload_n C rfl rfl (dkAt dk_X5_holds 13 rfl) 29 rfl ?_
      refine x_join hf (fun t6 => G Γ X M3 0 0 [some (.ref (wad Γ 96)), some (.int p0), some (.int p1), some (.long v2), none, some (.int x4)] [.int t6] 57) (fun t6 hf => ?_) (fun j9 hj9 hf => ?_)
      · refine x_istore C (L1 := [some (.ref (wad Γ 96)), some (.int p0), some (.int p1), some (.long v2), none, some (.int x4), some (.int t6)]) (dkAt dk_X5_holds 28 rfl) 59 rfl (by decide) rfl ?_
        refine x_aload_n C rfl rfl (dkAt dk_X5_holds 29 rfl) 60 rfl ?_
        refine x_getS C lk_RX5_15 (hN.sh sh96) (hN.sr sr96_4) (dkAt dk_X5_holds 30 rfl) 63 rfl ?_
        refine x_aload_n C rfl rfl (dkAt dk_X5_holds 31 rfl) 64 rfl ?_
        refine x_getI C lk_RX5_63 (hN.sh sh96) (dkAt dk_X5_holds 32 rfl) 67 rfl hf (fun v7 hf => ?_)
        refine x_iconst C (v := (3 : Int32)) (by decide) (dkAt dk_X5_holds 33 rfl) 68 rfl ?_
        refine x_imul C (dkAt dk_X5_holds 34 rfl) 69 rfl ?_
        refine x_iload C rfl (dkAt dk_X5_holds 35 rfl) 71 rfl ?_
        refine x_iadd C (dkAt dk_X5_holds 36 rfl) 72 rfl ?_
        refine x_lald C (hN.sh sh98) (dkAt dk_X5_holds 37 rfl) 73 rfl hf (fun v8 hf => ?_)
        refine x_iload C rfl (dkAt dk_X5_holds 38 rfl) 75 rfl ?_
        refine x_i2l C (dkAt dk_X5_holds 39 rfl) 76 rfl ?_
        refine x_lload_n C rfl rfl (dkAt dk_X5_holds 40 rfl) 77 rfl ?_
        refine x_lmul C (dkAt dk_X5_holds 41 rfl) 78 rfl ?_
        refine x_lcmp_le C 84 (dkAt dk_X5_holds 42 rfl) 82 rfl (dkAt dk_X5_holds 43 rfl) (by decide) hf (fun hf => ?_) (fun hf => ?_)
        · refine x_iinc C (v := (x4 + (1 : Int32))) (L1 := [some (.ref (wad Γ 96)), some (.int p0), some (.int p1), some (.long v2), none, some (.int (x4 + (1 : Int32))), some (.int t6)]) (dkAt dk_X5_holds 46 rfl) 87 rfl rfl rfl (by decide) rfl ?_
          refine x_goto C 14 (dkAt dk_X5_holds 47 rfl) (by decide) ?_
          exact G.weak (L := [some (.ref (wad Γ 96)), some (.int p0), some (.int p1), some (.long v2), none, some (.int (x4 + (1 : Int32)))]) ⟨rfl, rfl, rfl, rfl, rfl, trivial⟩ (ih _ hf)
        · refine x_iconst C (v := (0 : Int32)) (by decide) (dkAt dk_X5_holds 44 rfl) 83 rfl ?_
          exact x_zret C E (by decide) hf (by decide) (by decide) (dkAt dk_X5_holds 45 rfl)
      · refine x_icmp_ne C 47 (dkAt dk_X5_holds 14 rfl) 32 rfl (by decide) hf (fun hf => ?_) (fun hf => ?_)
        · refine x_aload_n C rfl rfl (dkAt dk_X5_holds 23 rfl) 48 rfl ?_
          refine x_getS C lk_RX5_39 (hN.sh sh96) (hN.sr sr96_1) (dkAt dk_X5_holds 24 rfl) 51 rfl ?_
          refine x_getS C lk_RX5_138 (hN.sh sh10) (hN.sr sr10_2) (dkAt dk_X5_holds 25 rfl) 54 rfl ?_
          refine x_iload C rfl (dkAt dk_X5_holds 26 rfl) 56 rfl ?_
          refine x_iald C (hN.sh sh13) (dkAt dk_X5_holds 27 rfl) 57 rfl hf (fun v10 hf => ?_)
          exact G.weak (L := [some (.ref (wad Γ 96)), some (.int p0), some (.int p1), some (.long v2), none, some (.int x4)]) ⟨rfl, rfl, rfl, rfl, rfl, trivial⟩ (hj9 _ hf)
        · refine x_aload_n C rfl rfl (dkAt dk_X5_holds 15 rfl) 33 rfl ?_
          refine x_getS C lk_RX5_39 (hN.sh sh96) (hN.sr sr96_1) (dkAt dk_X5_holds 16 rfl) 36 rfl ?_
          refine x_getS C lk_RX5_138 (hN.sh sh10) (hN.sr sr10_2) (dkAt dk_X5_holds 17 rfl) 39 rfl ?_
          refine x_iload C rfl (dkAt dk_X5_holds 18 rfl) 41 rfl ?_
          refine x_iald C (hN.sh sh13) (dkAt dk_X5_holds 19 rfl) 42 rfl hf (fun v11 hf => ?_)
          refine x_iload_n C rfl rfl (dkAt dk_X5_holds 20 rfl) 43 rfl ?_
          refine x_iadd C (dkAt dk_X5_holds 21 rfl) 44 rfl ?_
          refine x_goto C 57 (dkAt dk_X5_holds 22 rfl) (by decide) ?_
          exact G.weak (L := [some (.ref (wad Γ 96)), some (.int p0), some (.int p1), some (.long v2), none, some (.int x4)]) ⟨rfl, rfl, rfl, rfl, rfl, trivial⟩ (hj9 _ hf)
set_option maxRecDepth 100000 in
theorem c_X5_holds {Γ : WC} (hN : HN Γ) {Z : Nat} {M : Mem} {p0 : Int32} {p1 : Int32} {rM : Int32 × Mem}  (hf : f_X5_holds Z M p0 p1 = some rM) : Ct Γ yX5_holds cX5_holds 7 (some .boolean) (rmL 1 0 0) [.ref (wad Γ 96), .int p0, .int p1] M (some (.int rM.1)) rM.2 := by
  refine mkN hN.1 (own := RX5) rfl (by decide) (Nat.le_of_ble_eq_true rfl) (fun X C E => ?_)
  change G Γ X M 0 0 [some (.ref (wad Γ 96)), some (.int p0), some (.int p1)] [] 0
  unfold f_X5_holds at hf
  refine x_aload_n C rfl rfl (dkAt dk_X5_holds 0 rfl) 1 rfl ?_
  refine x_getS C lk_RX5_39 (hN.sh sh96) (hN.sr sr96_1) (dkAt dk_X5_holds 1 rfl) 4 rfl ?_
  refine x_getI C lk_RX5_100 (hN.sh sh10) (dkAt dk_X5_holds 2 rfl) 7 rfl hf (fun v1 hf => ?_)
  obtain ⟨v2, M3, h12, hf⟩ := cl_inv hf
  refine x_cNl C (c_X11_unitOf hN h12) mw_X11_unitOf ln_RX5_134 ms_X11_unitOf (ro_of (by decide) (by decide) (by decide) (by decide)) rfl rfl (Nat.le_of_ble_eq_true rfl) (dkAt dk_X5_holds 3 rfl) 10 rfl 0 0 rfl rfl ?_
  refine x_lstore_n C (L1 := [some (.ref (wad Γ 96)), some (.int p0), some (.int p1), some (.long v2)]) (dkAt dk_X5_holds 4 rfl) 11 rfl rfl (by decide) rfl ?_
  refine x_iconst C (v := (0 : Int32)) (by decide) (dkAt dk_X5_holds 5 rfl) 12 rfl ?_
  refine x_istore C (L1 := [some (.ref (wad Γ 96)), some (.int p0), some (.int p1), some (.long v2), none, some (.int (0 : Int32))]) (dkAt dk_X5_holds 6 rfl) 14 rfl (by decide) rfl ?_
  refine G.weak (L := [some (.ref (wad Γ 96)), some (.int p0), some (.int p1), some (.long v2), none, some (.int (0 : Int32))]) ⟨rfl, rfl, rfl, rfl, rfl, trivial⟩ ?_
  refine l_X5_holds_L14 hN C E Z _ hf
def f_X5_findBest_L17 (Z : Nat) (p0 : Int32) (p1 : Int32) : Nat → Int64 → Int32 → Int32 → Mem → Option (Int64 × Mem)
  | 0, _, _, _, _ => none
  | n + 1, x5, x6, x7, M8 => (if (729 : Int32) ≤ x7 then some (x5, M8) else (if x6 = 0 then some (x5, M8) else cl (f_X5_isPermittedSet Z M8) (fun v9 M10 => jn (fun (t11 : Int64 × Mem) => cl (f_X5_moveOn Z t11.2) (fun v12 M13 => f_X5_findBest_L17 Z p0 p1 n t11.1 v12 (x7 + (1 : Int32)) M13)) (fun j15 => (if v9 = 0 then j15 (x5, M10) else cl (f_X5_holds Z M10 p0 p1) (fun v16 M17 => (if v16 = 0 then j15 (x5, M17) else bd (gI M17 (96) 7) (fun v18 => rdL M17 97 729 v18 (fun v19 => (if v19 ≤ x5 then j15 (x5, M17) else bd (gI M17 (96) 7) (fun v20 => rdL M17 97 729 v20 (fun v21 => cl (f_X11_copyRow Z M17 (99) 6 (101) 6) (fun v22 M23 => j15 (v21, M23))))))))))))))
def f_X5_findBest (Z : Nat) (M : Mem) (p0 : Int32) (p1 : Int32) : Option (Int64 × Mem) :=
  cl (f_X5_fill Z M) (fun v1 M2 => cl (f_X5_begin Z M2) (fun v3 M4 => f_X5_findBest_L17 Z p0 p1 Z (-9223372036854775808 : Int64) v3 (0 : Int32) M4))
set_option maxRecDepth 100000 in
theorem l_X5_findBest_L17 {Γ : WC} {X : MX} (hN : HN Γ) (C : CX Γ X cX5_findBest 7 RX5 (some .long) (rmL 5 0 0)) {rM : Int64 × Mem} (E : EndN Γ X (some (.long rM.1)) rM.2 0 0) {Z : Nat} {p0 : Int32} {p1 : Int32} : ∀ (n : Nat) (x5 : Int64) (x6 : Int32) (x7 : Int32) (M8 : Mem), f_X5_findBest_L17 Z p0 p1 n x5 x6 x7 M8 = some rM → G Γ X M8 0 0 [some (.ref (wad Γ 96)), some (.int p0), some (.int p1), some (.long x5), none, some (.int x6), some (.int x7)] [] 17 := by
  intro n
  induction n with
  | zero =>
    intro x5 x6 x7 M8 hf
    have hf0 : (none : Option _) = some rM := hf
    cases hf0
  | succ n ih =>
    intro x5 x6 x7 M8 hf
    rw [f_X5_findBest_L17] at hf
    refine x_iload C rfl (dkAt dk_X5_findBest 9 rfl) 19 rfl ?_
    refine x_sipush C (v := (729 : Int32)) (by decide) (dkAt dk_X5_findBest 10 rfl) 22 rfl ?_
    refine x_icmp_ge C 93 (dkAt dk_X5_findBest 11 rfl) 25 rfl (by decide) hf (fun hf => ?_) (fun hf => ?_)
    · refine x_lload_n C rfl rfl (dkAt dk_X5_findBest 46 rfl) 94 rfl ?_
      exact x_lret C E hf (by decide) (by decide) (dkAt dk_X5_findBest 47 rfl)
    · refine x_iload C rfl (dkAt dk_X5_findBest 12 rfl) 27 rfl ?_
      refine x_if_eq C 93 (dkAt dk_X5_findBest 13 rfl) 30 rfl (by decide) hf (fun hf => ?_) (fun hf => ?_)
      · refine x_lload_n C rfl rfl (dkAt dk_X5_findBest 46 rfl) 94 rfl ?_
        exact x_lret C E hf (by decide) (by decide) (dkAt dk_X5_findBest 47 rfl)
      · refine x_aload_n C rfl rfl (dkAt dk_X5_findBest 14 rfl) 31 rfl ?_
        obtain ⟨v9, M10, h26, hf⟩ := cl_inv hf
        refine x_cVi C (c_X5_isPermittedSet hN h26) mw_X5_isPermittedSet ln_RX5_56 mi_X5_isPermittedSet (hN.rc (ci := 5) sh96 rc5) (ro_of (by decide) (by decide) (by decide) (by decide)) rfl rfl (Nat.le_of_ble_eq_true rfl) (dkAt dk_X5_findBest 15 rfl) 34 rfl 0 0 rfl rfl ?_
        refine x_join hf (fun t11 => G Γ X t11.2 0 0 [some (.ref (wad Γ 96)), some (.int p0), some (.int p1), some (.long t11.1), none, none, some (.int x7)] [] 81) (fun t11 hf => ?_) (fun j15 hj15 hf => ?_)
        · refine x_aload_n C rfl rfl (dkAt dk_X5_findBest 41 rfl) 82 rfl ?_
          obtain ⟨v12, M13, h14, hf⟩ := cl_inv hf
          refine x_cVi C (c_X5_moveOn hN h14) mw_X5_moveOn ln_RX5_70 mi_X5_moveOn (hN.rc (ci := 5) sh96 rc5) (ro_of (by decide) (by decide) (by decide) (by decide)) rfl rfl (Nat.le_of_ble_eq_true rfl) (dkAt dk_X5_findBest 42 rfl) 85 rfl 0 0 rfl rfl ?_
          refine x_istore C (L1 := [some (.ref (wad Γ 96)), some (.int p0), some (.int p1), some (.long t11.1), none, some (.int v12), some (.int x7)]) (dkAt dk_X5_findBest 43 rfl) 87 rfl (by decide) rfl ?_
          refine x_iinc C (v := (x7 + (1 : Int32))) (L1 := [some (.ref (wad Γ 96)), some (.int p0), some (.int p1), some (.long t11.1), none, some (.int v12), some (.int (x7 + (1 : Int32)))]) (dkAt dk_X5_findBest 44 rfl) 90 rfl rfl rfl (by decide) rfl ?_
          refine x_goto C 17 (dkAt dk_X5_findBest 45 rfl) (by decide) ?_
          exact G.weak (L := [some (.ref (wad Γ 96)), some (.int p0), some (.int p1), some (.long t11.1), none, some (.int v12), some (.int (x7 + (1 : Int32)))]) ⟨rfl, rfl, rfl, rfl, rfl, rfl, trivial⟩ (ih _ _ _ _ hf)
        · refine x_if_eq C 81 (dkAt dk_X5_findBest 16 rfl) 37 rfl (by decide) hf (fun hf => ?_) (fun hf => ?_)
          · exact G.weak (L := [some (.ref (wad Γ 96)), some (.int p0), some (.int p1), some (.long x5), none, none, some (.int x7)]) ⟨rfl, rfl, rfl, rfl, rfl, trivial⟩ (hj15 _ hf)
          · refine x_aload_n C rfl rfl (dkAt dk_X5_findBest 17 rfl) 38 rfl ?_
            refine x_iload_n C rfl rfl (dkAt dk_X5_findBest 18 rfl) 39 rfl ?_
            refine x_iload_n C rfl rfl (dkAt dk_X5_findBest 19 rfl) 40 rfl ?_
            obtain ⟨v16, M17, h25, hf⟩ := cl_inv hf
            refine x_cVi C (c_X5_holds hN h25) mw_X5_holds ln_RX5_59 mi_X5_holds (hN.rc (ci := 5) sh96 rc5) (ro_of (by decide) (by decide) (by decide) (by decide)) rfl rfl (Nat.le_of_ble_eq_true rfl) (dkAt dk_X5_findBest 20 rfl) 43 rfl 0 0 rfl rfl ?_
            refine x_if_eq C 81 (dkAt dk_X5_findBest 21 rfl) 46 rfl (by decide) hf (fun hf => ?_) (fun hf => ?_)
            · exact G.weak (L := [some (.ref (wad Γ 96)), some (.int p0), some (.int p1), some (.long x5), none, none, some (.int x7)]) ⟨rfl, rfl, rfl, rfl, rfl, trivial⟩ (hj15 _ hf)
            · refine x_aload_n C rfl rfl (dkAt dk_X5_findBest 22 rfl) 47 rfl ?_
              refine x_getS C lk_RX5_9 (hN.sh sh96) (hN.sr sr96_3) (dkAt dk_X5_findBest 23 rfl) 50 rfl ?_
              refine x_aload_n C rfl rfl (dkAt dk_X5_findBest 24 rfl) 51 rfl ?_
              refine x_getI C lk_RX5_63 (hN.sh sh96) (dkAt dk_X5_findBest 25 rfl) 54 rfl hf (fun v18 hf => ?_)
              refine x_lald C (hN.sh sh97) (dkAt dk_X5_findBest 26 rfl) 55 rfl hf (fun v19 hf => ?_)
              refine x_lload_n C rfl rfl (dkAt dk_X5_findBest 27 rfl) 56 rfl ?_
              refine x_lcmp_le C 81 (dkAt dk_X5_findBest 28 rfl) 60 rfl (dkAt dk_X5_findBest 29 rfl) (by decide) hf (fun hf => ?_) (fun hf => ?_)
              · exact G.weak (L := [some (.ref (wad Γ 96)), some (.int p0), some (.int p1), some (.long x5), none, none, some (.int x7)]) ⟨rfl, rfl, rfl, rfl, rfl, trivial⟩ (hj15 _ hf)
              · refine x_aload_n C rfl rfl (dkAt dk_X5_findBest 30 rfl) 61 rfl ?_
                refine x_getS C lk_RX5_9 (hN.sh sh96) (hN.sr sr96_3) (dkAt dk_X5_findBest 31 rfl) 64 rfl ?_
                refine x_aload_n C rfl rfl (dkAt dk_X5_findBest 32 rfl) 65 rfl ?_
                refine x_getI C lk_RX5_63 (hN.sh sh96) (dkAt dk_X5_findBest 33 rfl) 68 rfl hf (fun v20 hf => ?_)
                refine x_lald C (hN.sh sh97) (dkAt dk_X5_findBest 34 rfl) 69 rfl hf (fun v21 hf => ?_)
                refine x_lstore_n C (L1 := [some (.ref (wad Γ 96)), some (.int p0), some (.int p1), some (.long v21), none, some (.int x6), some (.int x7)]) (dkAt dk_X5_findBest 35 rfl) 70 rfl rfl (by decide) rfl ?_
                refine x_aload_n C rfl rfl (dkAt dk_X5_findBest 36 rfl) 71 rfl ?_
                refine x_getS C lk_RX5_25 (hN.sh sh96) (hN.sr sr96_8) (dkAt dk_X5_findBest 37 rfl) 74 rfl ?_
                refine x_aload_n C rfl rfl (dkAt dk_X5_findBest 38 rfl) 75 rfl ?_
                refine x_getS C lk_RX5_32 (hN.sh sh96) (hN.sr sr96_10) (dkAt dk_X5_findBest 39 rfl) 78 rfl ?_
                obtain ⟨v22, M23, h24, hf⟩ := cl_inv hf
                refine x_cNv C (c_X11_copyRow hN sh99 sh101 h24) mw_X11_copyRow ln_RX5_66 ms_X11_copyRow (ro_of (by decide) (by decide) (by decide) (by decide)) rfl rfl (Nat.le_of_ble_eq_true rfl) (dkAt dk_X5_findBest 40 rfl) 81 rfl 0 0 rfl rfl ?_
                exact G.weak (L := [some (.ref (wad Γ 96)), some (.int p0), some (.int p1), some (.long v21), none, none, some (.int x7)]) ⟨rfl, rfl, rfl, rfl, rfl, trivial⟩ (hj15 _ hf)
set_option maxRecDepth 100000 in
theorem c_X5_findBest {Γ : WC} (hN : HN Γ) {Z : Nat} {M : Mem} {p0 : Int32} {p1 : Int32} {rM : Int64 × Mem}  (hf : f_X5_findBest Z M p0 p1 = some rM) : Ct Γ yX5_findBest cX5_findBest 7 (some .long) (rmL 5 0 0) [.ref (wad Γ 96), .int p0, .int p1] M (some (.long rM.1)) rM.2 := by
  refine mkN hN.1 (own := RX5) rfl (by decide) (Nat.le_of_ble_eq_true rfl) (fun X C E => ?_)
  change G Γ X M 0 0 [some (.ref (wad Γ 96)), some (.int p0), some (.int p1)] [] 0
  unfold f_X5_findBest at hf
  refine x_aload_n C rfl rfl (dkAt dk_X5_findBest 0 rfl) 1 rfl ?_
  obtain ⟨v1, M2, h28, hf⟩ := cl_inv hf
  refine x_cVv C (c_X5_fill hN h28) mw_X5_fill ln_RX5_47 mi_X5_fill (hN.rc (ci := 5) sh96 rc5) (ro_of (by decide) (by decide) (by decide) (by decide)) rfl rfl (Nat.le_of_ble_eq_true rfl) (dkAt dk_X5_findBest 1 rfl) 4 rfl 0 0 rfl rfl ?_
  refine x_ldc2 C (v := (-9223372036854775808 : Int64)) cl_RX5_50 (dkAt dk_X5_findBest 2 rfl) 7 rfl ?_
  refine x_lstore_n C (L1 := [some (.ref (wad Γ 96)), some (.int p0), some (.int p1), some (.long (-9223372036854775808 : Int64))]) (dkAt dk_X5_findBest 3 rfl) 8 rfl rfl (by decide) rfl ?_
  refine x_aload_n C rfl rfl (dkAt dk_X5_findBest 4 rfl) 9 rfl ?_
  obtain ⟨v3, M4, h27, hf⟩ := cl_inv hf
  refine x_cVi C (c_X5_begin hN h27) mw_X5_begin ln_RX5_52 mi_X5_begin (hN.rc (ci := 5) sh96 rc5) (ro_of (by decide) (by decide) (by decide) (by decide)) rfl rfl (Nat.le_of_ble_eq_true rfl) (dkAt dk_X5_findBest 5 rfl) 12 rfl 0 0 rfl rfl ?_
  refine x_istore C (L1 := [some (.ref (wad Γ 96)), some (.int p0), some (.int p1), some (.long (-9223372036854775808 : Int64)), none, some (.int v3)]) (dkAt dk_X5_findBest 6 rfl) 14 rfl (by decide) rfl ?_
  refine x_iconst C (v := (0 : Int32)) (by decide) (dkAt dk_X5_findBest 7 rfl) 15 rfl ?_
  refine x_istore C (L1 := [some (.ref (wad Γ 96)), some (.int p0), some (.int p1), some (.long (-9223372036854775808 : Int64)), none, some (.int v3), some (.int (0 : Int32))]) (dkAt dk_X5_findBest 8 rfl) 17 rfl (by decide) rfl ?_
  refine G.weak (L := [some (.ref (wad Γ 96)), some (.int p0), some (.int p1), some (.long (-9223372036854775808 : Int64)), none, some (.int v3), some (.int (0 : Int32))]) ⟨rfl, rfl, rfl, rfl, rfl, rfl, trivial⟩ ?_
  refine l_X5_findBest_L17 hN C E Z _ _ _ _ hf
def f_X7_walkRow (Z : Nat) (M : Mem) (o : Nat) (p0 : Int32) : Option (Int32 × Mem) :=
  rdI M (o + 4) 6 p0 (fun v1 => rdI M (o + 5) 5 p0 (fun v2 => cl (f_X11_rowOf Z M v1 v2) (fun v3 M4 => some (v3, M4))))
set_option maxRecDepth 100000 in
theorem c_X7_walkRow {Γ : WC} (hN : HN Γ) {Z : Nat} {M : Mem} {o : Nat} {p0 : Int32} {rM : Int32 × Mem} (h_o : SH[o]? = some (13, 9)) (hf : f_X7_walkRow Z M o p0 = some rM) : Ct Γ yX7_walkRow cX7_walkRow 2 (some .int) (rmL 1 0 0) [.ref (wad Γ o), .int p0] M (some (.int rM.1)) rM.2 := by
  refine mkN hN.1 (own := RX7) rfl (by decide) (Nat.le_of_ble_eq_true rfl) (fun X C E => ?_)
  change G Γ X M 0 0 [some (.ref (wad Γ o)), some (.int p0)] [] 0
  unfold f_X7_walkRow at hf
  refine x_aload_n C rfl rfl (dkAt dk_X7_walkRow 0 rfl) 1 rfl ?_
  refine x_getS C lk_RX7_25 (hN.sh h_o) (hN.sr (sr_7_7 h_o)) (dkAt dk_X7_walkRow 1 rfl) 4 rfl ?_
  refine x_iload_n C rfl rfl (dkAt dk_X7_walkRow 2 rfl) 5 rfl ?_
  refine x_iald C (hN.sh (sh_7_7 h_o)) (dkAt dk_X7_walkRow 3 rfl) 6 rfl hf (fun v1 hf => ?_)
  refine x_aload_n C rfl rfl (dkAt dk_X7_walkRow 4 rfl) 7 rfl ?_
  refine x_getS C lk_RX7_28 (hN.sh h_o) (hN.sr (sr_7_8 h_o)) (dkAt dk_X7_walkRow 5 rfl) 10 rfl ?_
  refine x_iload_n C rfl rfl (dkAt dk_X7_walkRow 6 rfl) 11 rfl ?_
  refine x_iald C (hN.sh (sh_7_8 h_o)) (dkAt dk_X7_walkRow 7 rfl) 12 rfl hf (fun v2 hf => ?_)
  obtain ⟨v3, M4, h5, hf⟩ := cl_inv hf
  refine x_cNi C (c_X11_rowOf hN h5) mw_X11_rowOf ln_RX7_54 ms_X11_rowOf (ro_of (by decide) (by decide) (by decide) (by decide)) rfl rfl (Nat.le_of_ble_eq_true rfl) (dkAt dk_X7_walkRow 8 rfl) 15 rfl 0 0 rfl rfl ?_
  exact x_iret C E hf (by decide) (by decide) (dkAt dk_X7_walkRow 9 rfl)
def f_X9_of (Z : Nat) (M : Mem) (p0 : Int32) (p1 : Int32) : Option (Int64 × Mem) :=
  rdL M 103 36 ((p1 * (6 : Int32)) + p0) (fun v1 => some (v1, M))
set_option maxRecDepth 100000 in
theorem c_X9_of {Γ : WC} (hN : HN Γ) {Z : Nat} {M : Mem} {p0 : Int32} {p1 : Int32} {rM : Int64 × Mem}  (hf : f_X9_of Z M p0 p1 = some rM) : Ct Γ yX9_of cX9_of 3 (some .long) (rmL 0 0 0) [.ref (wad Γ 102), .int p0, .int p1] M (some (.long rM.1)) rM.2 := by
  refine mkN hN.1 (own := RX9) rfl (by decide) (Nat.le_of_ble_eq_true rfl) (fun X C E => ?_)
  change G Γ X M 0 0 [some (.ref (wad Γ 102)), some (.int p0), some (.int p1)] [] 0
  unfold f_X9_of at hf
  refine x_aload_n C rfl rfl (dkAt dk_X9_of 0 rfl) 1 rfl ?_
  refine x_getS C lk_RX9_9 (hN.sh sh102) (hN.sr sr102_2) (dkAt dk_X9_of 1 rfl) 4 rfl ?_
  refine x_iload_n C rfl rfl (dkAt dk_X9_of 2 rfl) 5 rfl ?_
  refine x_bipush C (v := (6 : Int32)) (by decide) (dkAt dk_X9_of 3 rfl) 7 rfl ?_
  refine x_imul C (dkAt dk_X9_of 4 rfl) 8 rfl ?_
  refine x_iload_n C rfl rfl (dkAt dk_X9_of 5 rfl) 9 rfl ?_
  refine x_iadd C (dkAt dk_X9_of 6 rfl) 10 rfl ?_
  refine x_lald C (hN.sh sh103) (dkAt dk_X9_of 7 rfl) 11 rfl hf (fun v1 hf => ?_)
  exact x_lret C E hf (by decide) (by decide) (dkAt dk_X9_of 8 rfl)
def f_X9_valueOver_L14 (Z : Nat) (M : Mem) (p0 : Int32) (p1 : Int32) (k : Int64 → Option (Int64 × Mem)) : Nat → Int64 → Int32 → Option (Int64 × Mem)
  | 0, _, _ => none
  | n + 1, x2, x3 => (if p1 ≤ x3 then k x2 else f_X9_valueOver_L14 Z M p0 p1 k n (x2 * (100 : Int64)) (x3 + (1 : Int32)))
def f_X9_valueOver_L35 (Z : Nat) (p0 : Int32) (p1 : Int32) : Nat → Int64 → Int32 → Mem → Option (Int64 × Mem)
  | 0, _, _, _ => none
  | n + 1, x5, x6, M7 => bd (gI M7 (3) 0) (fun v8 => (if v8 ≤ x6 then some (x5, M7) else cl (f_X0_percentTo Z M7 (3) p0 x6) (fun v9 M10 => cl (f_X9_of Z M10 x6 (p1 - (1 : Int32))) (fun v11 M12 => f_X9_valueOver_L35 Z p0 p1 n (x5 + (v9.toInt64 * v11)) (x6 + (1 : Int32)) M12))))
def f_X9_valueOver (Z : Nat) (M : Mem) (p0 : Int32) (p1 : Int32) : Option (Int64 × Mem) :=
  rdI M 5 18 p0 (fun v1 => f_X9_valueOver_L14 Z M p0 p1 (fun (y4 : Int64) => f_X9_valueOver_L35 Z p0 p1 Z y4 (0 : Int32) M) Z v1.toInt64 (1 : Int32))
set_option maxRecDepth 100000 in
theorem l_X9_valueOver_L14 {Γ : WC} {X : MX} (hN : HN Γ) (C : CX Γ X cX9_valueOver 6 RX9 (some .long) (rmL 1 0 0)) {rM : Int64 × Mem} (E : EndN Γ X (some (.long rM.1)) rM.2 0 0) {Z : Nat} {M : Mem} {p0 : Int32} {p1 : Int32} {k : Int64 → Option (Int64 × Mem)} (hk : ∀ (a3 : Int64), k a3 = some rM → G Γ X M 0 0 [some (.ref (wad Γ 102)), some (.int p0), some (.int p1), some (.long a3)] [] 32) : ∀ (n : Nat) (x2 : Int64) (x3 : Int32), f_X9_valueOver_L14 Z M p0 p1 k n x2 x3 = some rM → G Γ X M 0 0 [some (.ref (wad Γ 102)), some (.int p0), some (.int p1), some (.long x2), none, some (.int x3)] [] 14 := by
  intro n
  induction n with
  | zero =>
    intro x2 x3 hf
    have hf0 : (none : Option _) = some rM := hf
    cases hf0
  | succ n ih =>
    intro x2 x3 hf
    rw [f_X9_valueOver_L14] at hf
    refine x_iload C rfl (dkAt dk_X9_valueOver 9 rfl) 16 rfl ?_
    refine x_iload_n C rfl rfl (dkAt dk_X9_valueOver 10 rfl) 17 rfl ?_
    refine x_icmp_ge C 32 (dkAt dk_X9_valueOver 11 rfl) 20 rfl (by decide) hf (fun hf => ?_) (fun hf => ?_)
    · exact G.weak (L := [some (.ref (wad Γ 102)), some (.int p0), some (.int p1), some (.long x2)]) ⟨rfl, rfl, rfl, rfl, trivial⟩ (hk _ hf)
    · refine x_lload_n C rfl rfl (dkAt dk_X9_valueOver 12 rfl) 21 rfl ?_
      refine x_ldc2 C (v := (100 : Int64)) cl_RX9_66 (dkAt dk_X9_valueOver 13 rfl) 24 rfl ?_
      refine x_lmul C (dkAt dk_X9_valueOver 14 rfl) 25 rfl ?_
      refine x_lstore_n C (L1 := [some (.ref (wad Γ 102)), some (.int p0), some (.int p1), some (.long (x2 * (100 : Int64))), none, some (.int x3)]) (dkAt dk_X9_valueOver 15 rfl) 26 rfl rfl (by decide) rfl ?_
      refine x_iinc C (v := (x3 + (1 : Int32))) (L1 := [some (.ref (wad Γ 102)), some (.int p0), some (.int p1), some (.long (x2 * (100 : Int64))), none, some (.int (x3 + (1 : Int32)))]) (dkAt dk_X9_valueOver 16 rfl) 29 rfl rfl rfl (by decide) rfl ?_
      refine x_goto C 14 (dkAt dk_X9_valueOver 17 rfl) (by decide) ?_
      exact G.weak (L := [some (.ref (wad Γ 102)), some (.int p0), some (.int p1), some (.long (x2 * (100 : Int64))), none, some (.int (x3 + (1 : Int32)))]) ⟨rfl, rfl, rfl, rfl, rfl, trivial⟩ (ih _ _ hf)
set_option maxRecDepth 100000 in
theorem l_X9_valueOver_L35 {Γ : WC} {X : MX} (hN : HN Γ) (C : CX Γ X cX9_valueOver 6 RX9 (some .long) (rmL 1 0 0)) {rM : Int64 × Mem} (E : EndN Γ X (some (.long rM.1)) rM.2 0 0) {Z : Nat} {p0 : Int32} {p1 : Int32} : ∀ (n : Nat) (x5 : Int64) (x6 : Int32) (M7 : Mem), f_X9_valueOver_L35 Z p0 p1 n x5 x6 M7 = some rM → G Γ X M7 0 0 [some (.ref (wad Γ 102)), some (.int p0), some (.int p1), some (.long x5), none, some (.int x6)] [] 35 := by
  intro n
  induction n with
  | zero =>
    intro x5 x6 M7 hf
    have hf0 : (none : Option _) = some rM := hf
    cases hf0
  | succ n ih =>
    intro x5 x6 M7 hf
    rw [f_X9_valueOver_L35] at hf
    refine x_iload C rfl (dkAt dk_X9_valueOver 20 rfl) 37 rfl ?_
    refine x_aload_n C rfl rfl (dkAt dk_X9_valueOver 21 rfl) 38 rfl ?_
    refine x_getS C lk_RX9_15 (hN.sh sh102) (hN.sr sr102_0) (dkAt dk_X9_valueOver 22 rfl) 41 rfl ?_
    refine x_getI C lk_RX9_29 (hN.sh sh3) (dkAt dk_X9_valueOver 23 rfl) 44 rfl hf (fun v8 hf => ?_)
    refine x_icmp_ge C 77 (dkAt dk_X9_valueOver 24 rfl) 47 rfl (by decide) hf (fun hf => ?_) (fun hf => ?_)
    · refine x_lload_n C rfl rfl (dkAt dk_X9_valueOver 43 rfl) 78 rfl ?_
      exact x_lret C E hf (by decide) (by decide) (dkAt dk_X9_valueOver 44 rfl)
    · refine x_lload_n C rfl rfl (dkAt dk_X9_valueOver 25 rfl) 48 rfl ?_
      refine x_aload_n C rfl rfl (dkAt dk_X9_valueOver 26 rfl) 49 rfl ?_
      refine x_getS C lk_RX9_15 (hN.sh sh102) (hN.sr sr102_0) (dkAt dk_X9_valueOver 27 rfl) 52 rfl ?_
      refine x_iload_n C rfl rfl (dkAt dk_X9_valueOver 28 rfl) 53 rfl ?_
      refine x_iload C rfl (dkAt dk_X9_valueOver 29 rfl) 55 rfl ?_
      obtain ⟨v9, M10, h14, hf⟩ := cl_inv hf
      refine x_cVi C (c_X0_percentTo hN sh3 h14) mw_X0_percentTo ln_RX9_68 mi_X0_percentTo (hN.rc (ci := 0) sh3 rc0) (ro_of (by decide) (by decide) (by decide) (by decide)) rfl rfl (Nat.le_of_ble_eq_true rfl) (dkAt dk_X9_valueOver 30 rfl) 58 rfl 0 0 rfl rfl ?_
      refine x_i2l C (dkAt dk_X9_valueOver 31 rfl) 59 rfl ?_
      refine x_aload_n C rfl rfl (dkAt dk_X9_valueOver 32 rfl) 60 rfl ?_
      refine x_iload C rfl (dkAt dk_X9_valueOver 33 rfl) 62 rfl ?_
      refine x_iload_n C rfl rfl (dkAt dk_X9_valueOver 34 rfl) 63 rfl ?_
      refine x_iconst C (v := (1 : Int32)) (by decide) (dkAt dk_X9_valueOver 35 rfl) 64 rfl ?_
      refine x_isub C (dkAt dk_X9_valueOver 36 rfl) 65 rfl ?_
      obtain ⟨v11, M12, h13, hf⟩ := cl_inv hf
      refine x_cVl C (c_X9_of hN h13) mw_X9_of ln_RX9_71 mi_X9_of (hN.rc (ci := 9) sh102 rc9) (ro_of (by decide) (by decide) (by decide) (by decide)) rfl rfl (Nat.le_of_ble_eq_true rfl) (dkAt dk_X9_valueOver 37 rfl) 68 rfl 0 0 rfl rfl ?_
      refine x_lmul C (dkAt dk_X9_valueOver 38 rfl) 69 rfl ?_
      refine x_ladd C (dkAt dk_X9_valueOver 39 rfl) 70 rfl ?_
      refine x_lstore_n C (L1 := [some (.ref (wad Γ 102)), some (.int p0), some (.int p1), some (.long (x5 + (v9.toInt64 * v11))), none, some (.int x6)]) (dkAt dk_X9_valueOver 40 rfl) 71 rfl rfl (by decide) rfl ?_
      refine x_iinc C (v := (x6 + (1 : Int32))) (L1 := [some (.ref (wad Γ 102)), some (.int p0), some (.int p1), some (.long (x5 + (v9.toInt64 * v11))), none, some (.int (x6 + (1 : Int32)))]) (dkAt dk_X9_valueOver 41 rfl) 74 rfl rfl rfl (by decide) rfl ?_
      refine x_goto C 35 (dkAt dk_X9_valueOver 42 rfl) (by decide) ?_
      exact G.weak (L := [some (.ref (wad Γ 102)), some (.int p0), some (.int p1), some (.long (x5 + (v9.toInt64 * v11))), none, some (.int (x6 + (1 : Int32)))]) ⟨rfl, rfl, rfl, rfl, rfl, trivial⟩ (ih _ _ _ hf)
set_option maxRecDepth 100000 in
theorem c_X9_valueOver {Γ : WC} (hN : HN Γ) {Z : Nat} {M : Mem} {p0 : Int32} {p1 : Int32} {rM : Int64 × Mem}  (hf : f_X9_valueOver Z M p0 p1 = some rM) : Ct Γ yX9_valueOver cX9_valueOver 6 (some .long) (rmL 1 0 0) [.ref (wad Γ 102), .int p0, .int p1] M (some (.long rM.1)) rM.2 := by
  refine mkN hN.1 (own := RX9) rfl (by decide) (Nat.le_of_ble_eq_true rfl) (fun X C E => ?_)
  change G Γ X M 0 0 [some (.ref (wad Γ 102)), some (.int p0), some (.int p1)] [] 0
  unfold f_X9_valueOver at hf
  refine x_aload_n C rfl rfl (dkAt dk_X9_valueOver 0 rfl) 1 rfl ?_
  refine x_getS C lk_RX9_15 (hN.sh sh102) (hN.sr sr102_0) (dkAt dk_X9_valueOver 1 rfl) 4 rfl ?_
  refine x_getS C lk_RX9_63 (hN.sh sh3) (hN.sr sr3_3) (dkAt dk_X9_valueOver 2 rfl) 7 rfl ?_
  refine x_iload_n C rfl rfl (dkAt dk_X9_valueOver 3 rfl) 8 rfl ?_
  refine x_iald C (hN.sh sh5) (dkAt dk_X9_valueOver 4 rfl) 9 rfl hf (fun v1 hf => ?_)
  refine x_i2l C (dkAt dk_X9_valueOver 5 rfl) 10 rfl ?_
  refine x_lstore_n C (L1 := [some (.ref (wad Γ 102)), some (.int p0), some (.int p1), some (.long v1.toInt64)]) (dkAt dk_X9_valueOver 6 rfl) 11 rfl rfl (by decide) rfl ?_
  refine x_iconst C (v := (1 : Int32)) (by decide) (dkAt dk_X9_valueOver 7 rfl) 12 rfl ?_
  refine x_istore C (L1 := [some (.ref (wad Γ 102)), some (.int p0), some (.int p1), some (.long v1.toInt64), none, some (.int (1 : Int32))]) (dkAt dk_X9_valueOver 8 rfl) 14 rfl (by decide) rfl ?_
  refine G.weak (L := [some (.ref (wad Γ 102)), some (.int p0), some (.int p1), some (.long v1.toInt64), none, some (.int (1 : Int32))]) ⟨rfl, rfl, rfl, rfl, rfl, trivial⟩ ?_
  refine l_X9_valueOver_L14 hN C E ?_ Z _ _ hf
  intro y4 hf
  refine x_iconst C (v := (0 : Int32)) (by decide) (dkAt dk_X9_valueOver 18 rfl) 33 rfl ?_
  refine x_istore C (L1 := [some (.ref (wad Γ 102)), some (.int p0), some (.int p1), some (.long y4), none, some (.int (0 : Int32))]) (dkAt dk_X9_valueOver 19 rfl) 35 rfl (by decide) rfl ?_
  refine G.weak (L := [some (.ref (wad Γ 102)), some (.int p0), some (.int p1), some (.long y4), none, some (.int (0 : Int32))]) ⟨rfl, rfl, rfl, rfl, rfl, trivial⟩ ?_
  refine l_X9_valueOver_L35 hN C E Z _ _ _ hf
def f_X9_firstAction_L10 (Z : Nat) (p0 : Int32) (p1 : Int32) (k : Int32 → Mem → Option (Int32 × Mem)) : Nat → Int32 → Int64 → Int32 → Mem → Option (Int32 × Mem)
  | 0, _, _, _, _ => none
  | n + 1, x1, x2, x3, M4 => rdI M4 4 6 p0 (fun v5 => (if v5 ≤ x3 then k x1 M4 else cl (f_X11_rowOf Z M4 p0 x3) (fun v6 M7 => cl (f_X9_valueOver Z M7 v6 p1) (fun v8 M9 => cl (f_X7_permits Z M9 (10) p0 x3) (fun v10 M11 => jn (fun (t12 : Int32 × Int64) => f_X9_firstAction_L10 Z p0 p1 k n t12.1 t12.2 (x3 + (1 : Int32)) M11) (fun j13 => (if v10 = 0 then j13 (x1, x2) else jn (fun (t14 : Unit) => j13 (x3, v8)) (fun j15 => (if x1 = (-1 : Int32) then j15 () else (if v8 ≤ x2 then j13 (x1, x2) else j15 ()))))))))))
def f_X9_firstAction (Z : Nat) (M : Mem) (p0 : Int32) (p1 : Int32) : Option (Int32 × Mem) :=
  f_X9_firstAction_L10 Z p0 p1 (fun (y19 : Int32) (M20 : Mem) => bd (if y19 < (0 : Int32) then (0 : Int32) else y19) (fun v21 => some (v21, M20))) Z (-1 : Int32) (-9223372036854775808 : Int64) (0 : Int32) M
set_option maxRecDepth 100000 in
theorem l_X9_firstAction_L10 {Γ : WC} {X : MX} (hN : HN Γ) (C : CX Γ X cX9_firstAction 9 RX9 (some .int) (rmL 2 0 0)) {rM : Int32 × Mem} (E : EndN Γ X (some (.int rM.1)) rM.2 0 0) {Z : Nat} {p0 : Int32} {p1 : Int32} {k : Int32 → Mem → Option (Int32 × Mem)} (hk : ∀ (a3 : Int32) (Mx : Mem), k a3 Mx = some rM → G Γ X Mx 0 0 [none, none, none, some (.int a3)] [] 76) : ∀ (n : Nat) (x1 : Int32) (x2 : Int64) (x3 : Int32) (M4 : Mem), f_X9_firstAction_L10 Z p0 p1 k n x1 x2 x3 M4 = some rM → G Γ X M4 0 0 [some (.ref (wad Γ 102)), some (.int p0), some (.int p1), some (.int x1), some (.long x2), none, some (.int x3)] [] 10 := by
  intro n
  induction n with
  | zero =>
    intro x1 x2 x3 M4 hf
    have hf0 : (none : Option _) = some rM := hf
    cases hf0
  | succ n ih =>
    intro x1 x2 x3 M4 hf
    rw [f_X9_firstAction_L10] at hf
    refine x_iload C rfl (dkAt dk_X9_firstAction 6 rfl) 12 rfl ?_
    refine x_aload_n C rfl rfl (dkAt dk_X9_firstAction 7 rfl) 13 rfl ?_
    refine x_getS C lk_RX9_15 (hN.sh sh102) (hN.sr sr102_0) (dkAt dk_X9_firstAction 8 rfl) 16 rfl ?_
    refine x_getS C lk_RX9_48 (hN.sh sh3) (hN.sr sr3_2) (dkAt dk_X9_firstAction 9 rfl) 19 rfl ?_
    refine x_iload_n C rfl rfl (dkAt dk_X9_firstAction 10 rfl) 20 rfl ?_
    refine x_iald C (hN.sh sh4) (dkAt dk_X9_firstAction 11 rfl) 21 rfl hf (fun v5 hf => ?_)
    refine x_icmp_ge C 76 (dkAt dk_X9_firstAction 12 rfl) 24 rfl (by decide) hf (fun hf => ?_) (fun hf => ?_)
    · exact G.weak (L := [none, none, none, some (.int x1)]) ⟨rfl, trivial⟩ (hk _ _ hf)
    · refine x_aload_n C rfl rfl (dkAt dk_X9_firstAction 13 rfl) 25 rfl ?_
      refine x_iload_n C rfl rfl (dkAt dk_X9_firstAction 14 rfl) 26 rfl ?_
      refine x_iload C rfl (dkAt dk_X9_firstAction 15 rfl) 28 rfl ?_
      obtain ⟨v6, M7, h18, hf⟩ := cl_inv hf
      refine x_cNi C (c_X11_rowOf hN h18) mw_X11_rowOf ln_RX9_39 ms_X11_rowOf (ro_of (by decide) (by decide) (by decide) (by decide)) rfl rfl (Nat.le_of_ble_eq_true rfl) (dkAt dk_X9_firstAction 16 rfl) 31 rfl 0 0 rfl rfl ?_
      refine x_iload_n C rfl rfl (dkAt dk_X9_firstAction 17 rfl) 32 rfl ?_
      obtain ⟨v8, M9, h17, hf⟩ := cl_inv hf
      refine x_cVl C (c_X9_valueOver hN h17) mw_X9_valueOver ln_RX9_42 mi_X9_valueOver (hN.rc (ci := 9) sh102 rc9) (ro_of (by decide) (by decide) (by decide) (by decide)) rfl rfl (Nat.le_of_ble_eq_true rfl) (dkAt dk_X9_firstAction 18 rfl) 35 rfl 0 0 rfl rfl ?_
      refine x_lstore C (L1 := [some (.ref (wad Γ 102)), some (.int p0), some (.int p1), some (.int x1), some (.long x2), none, some (.int x3), some (.long v8)]) (dkAt dk_X9_firstAction 19 rfl) 37 rfl (by decide) rfl ?_
      refine x_aload_n C rfl rfl (dkAt dk_X9_firstAction 20 rfl) 38 rfl ?_
      refine x_getS C lk_RX9_19 (hN.sh sh102) (hN.sr sr102_1) (dkAt dk_X9_firstAction 21 rfl) 41 rfl ?_
      refine x_iload_n C rfl rfl (dkAt dk_X9_firstAction 22 rfl) 42 rfl ?_
      refine x_iload C rfl (dkAt dk_X9_firstAction 23 rfl) 44 rfl ?_
      obtain ⟨v10, M11, h16, hf⟩ := cl_inv hf
      refine x_cVi C (c_X7_permits hN sh10 h16) mw_X7_permits ln_RX9_52 mi_X7_permits (hN.rc (ci := 7) sh10 rc7) (ro_of (by decide) (by decide) (by decide) (by decide)) rfl rfl (Nat.le_of_ble_eq_true rfl) (dkAt dk_X9_firstAction 24 rfl) 47 rfl 0 0 rfl rfl ?_
      refine x_join hf (fun t12 => G Γ X M11 0 0 [some (.ref (wad Γ 102)), some (.int p0), some (.int p1), some (.int t12.1), some (.long t12.2), none, some (.int x3)] [] 70) (fun t12 hf => ?_) (fun j13 hj13 hf => ?_)
      · refine x_iinc C (v := (x3 + (1 : Int32))) (L1 := [some (.ref (wad Γ 102)), some (.int p0), some (.int p1), some (.int t12.1), some (.long t12.2), none, some (.int (x3 + (1 : Int32)))]) (dkAt dk_X9_firstAction 37 rfl) 73 rfl rfl rfl (by decide) rfl ?_
        refine x_goto C 10 (dkAt dk_X9_firstAction 38 rfl) (by decide) ?_
        exact G.weak (L := [some (.ref (wad Γ 102)), some (.int p0), some (.int p1), some (.int t12.1), some (.long t12.2), none, some (.int (x3 + (1 : Int32)))]) ⟨rfl, rfl, rfl, rfl, rfl, rfl, trivial⟩ (ih _ _ _ _ hf)
      · refine x_if_eq C 70 (dkAt dk_X9_firstAction 25 rfl) 50 rfl (by decide) hf (fun hf => ?_) (fun hf => ?_)
        · exact G.weak (L := [some (.ref (wad Γ 102)), some (.int p0), some (.int p1), some (.int x1), some (.long x2), none, some (.int x3)]) ⟨rfl, rfl, rfl, rfl, rfl, rfl, trivial⟩ (hj13 _ hf)
        · refine x_iload_n C rfl rfl (dkAt dk_X9_firstAction 26 rfl) 51 rfl ?_
          refine x_iconst C (v := (-1 : Int32)) (by decide) (dkAt dk_X9_firstAction 27 rfl) 52 rfl ?_
          refine x_join hf (fun t14 => G Γ X M11 0 0 [some (.ref (wad Γ 102)), some (.int p0), some (.int p1), none, none, none, some (.int x3), some (.long v8)] [] 63) (fun t14 hf => ?_) (fun j15 hj15 hf => ?_)
          · refine x_iload C rfl (dkAt dk_X9_firstAction 33 rfl) 65 rfl ?_
            refine x_istore_n C (L1 := [some (.ref (wad Γ 102)), some (.int p0), some (.int p1), some (.int x3), none, none, some (.int x3), some (.long v8)]) (dkAt dk_X9_firstAction 34 rfl) 66 rfl rfl (by decide) rfl ?_
            refine x_lload C rfl (dkAt dk_X9_firstAction 35 rfl) 68 rfl ?_
            refine x_lstore C (L1 := [some (.ref (wad Γ 102)), some (.int p0), some (.int p1), some (.int x3), some (.long v8), none, some (.int x3), some (.long v8)]) (dkAt dk_X9_firstAction 36 rfl) 70 rfl (by decide) rfl ?_
            exact G.weak (L := [some (.ref (wad Γ 102)), some (.int p0), some (.int p1), some (.int x3), some (.long v8), none, some (.int x3)]) ⟨rfl, rfl, rfl, rfl, rfl, rfl, trivial⟩ (hj13 _ hf)
          · refine x_icmp_eq C 63 (dkAt dk_X9_firstAction 28 rfl) 55 rfl (by decide) hf (fun hf => ?_) (fun hf => ?_)
            · exact G.weak (L := [some (.ref (wad Γ 102)), some (.int p0), some (.int p1), none, none, none, some (.int x3), some (.long v8)]) ⟨rfl, rfl, rfl, rfl, rfl, trivial⟩ (hj15 _ hf)
            · refine x_lload C rfl (dkAt dk_X9_firstAction 29 rfl) 57 rfl ?_
              refine x_lload C rfl (dkAt dk_X9_firstAction 30 rfl) 59 rfl ?_
              refine x_lcmp_le C 70 (dkAt dk_X9_firstAction 31 rfl) 63 rfl (dkAt dk_X9_firstAction 32 rfl) (by decide) hf (fun hf => ?_) (fun hf => ?_)
              · exact G.weak (L := [some (.ref (wad Γ 102)), some (.int p0), some (.int p1), some (.int x1), some (.long x2), none, some (.int x3)]) ⟨rfl, rfl, rfl, rfl, rfl, rfl, trivial⟩ (hj13 _ hf)
              · exact G.weak (L := [some (.ref (wad Γ 102)), some (.int p0), some (.int p1), none, none, none, some (.int x3), some (.long v8)]) ⟨rfl, rfl, rfl, rfl, rfl, trivial⟩ (hj15 _ hf)
set_option maxRecDepth 100000 in
theorem c_X9_firstAction {Γ : WC} (hN : HN Γ) {Z : Nat} {M : Mem} {p0 : Int32} {p1 : Int32} {rM : Int32 × Mem}  (hf : f_X9_firstAction Z M p0 p1 = some rM) : Ct Γ yX9_firstAction cX9_firstAction 9 (some .int) (rmL 2 0 0) [.ref (wad Γ 102), .int p0, .int p1] M (some (.int rM.1)) rM.2 := by
  refine mkN hN.1 (own := RX9) rfl (by decide) (Nat.le_of_ble_eq_true rfl) (fun X C E => ?_)
  change G Γ X M 0 0 [some (.ref (wad Γ 102)), some (.int p0), some (.int p1)] [] 0
  unfold f_X9_firstAction at hf
  refine x_iconst C (v := (-1 : Int32)) (by decide) (dkAt dk_X9_firstAction 0 rfl) 1 rfl ?_
  refine x_istore_n C (L1 := [some (.ref (wad Γ 102)), some (.int p0), some (.int p1), some (.int (-1 : Int32))]) (dkAt dk_X9_firstAction 1 rfl) 2 rfl rfl (by decide) rfl ?_
  refine x_ldc2 C (v := (-9223372036854775808 : Int64)) cl_RX9_46 (dkAt dk_X9_firstAction 2 rfl) 5 rfl ?_
  refine x_lstore C (L1 := [some (.ref (wad Γ 102)), some (.int p0), some (.int p1), some (.int (-1 : Int32)), some (.long (-9223372036854775808 : Int64))]) (dkAt dk_X9_firstAction 3 rfl) 7 rfl (by decide) rfl ?_
  refine x_iconst C (v := (0 : Int32)) (by decide) (dkAt dk_X9_firstAction 4 rfl) 8 rfl ?_
  refine x_istore C (L1 := [some (.ref (wad Γ 102)), some (.int p0), some (.int p1), some (.int (-1 : Int32)), some (.long (-9223372036854775808 : Int64)), none, some (.int (0 : Int32))]) (dkAt dk_X9_firstAction 5 rfl) 10 rfl (by decide) rfl ?_
  refine G.weak (L := [some (.ref (wad Γ 102)), some (.int p0), some (.int p1), some (.int (-1 : Int32)), some (.long (-9223372036854775808 : Int64)), none, some (.int (0 : Int32))]) ⟨rfl, rfl, rfl, rfl, rfl, rfl, trivial⟩ ?_
  refine l_X9_firstAction_L10 hN C E ?_ Z _ _ _ _ hf
  intro y19 M20 hf
  refine x_iload_n C rfl rfl (dkAt dk_X9_firstAction 39 rfl) 77 rfl ?_
  refine x_iconst C (v := (0 : Int32)) (by decide) (dkAt dk_X9_firstAction 40 rfl) 78 rfl ?_
  refine x_maxI C ln_RX9_58 ⟨by decide, by decide, by decide, by decide⟩ (Nat.le_of_ble_eq_true rfl) (dkAt dk_X9_firstAction 41 rfl) 81 rfl hf (fun v21 hf => ?_)
  exact x_iret C E hf (by decide) (by decide) (dkAt dk_X9_firstAction 42 rfl)
def f_X9_fill_L17 (Z : Nat) (x3 : Int32) (k : Mem → Option (Unit × Mem)) : Nat → Int32 → Mem → Option (Unit × Mem)
  | 0, _, _ => none
  | n + 1, x5, M6 => bd (gI M6 (3) 0) (fun v7 => (if v7 ≤ x5 then k M6 else cl (f_X9_firstAction Z M6 x5 x3) (fun v8 M9 => cl (f_X11_rowOf Z M9 x5 v8) (fun v10 M11 => cl (f_X9_valueOver Z M11 v10 x3) (fun v12 M13 => wrL M13 103 36 ((x3 * (6 : Int32)) + x5) v12 (fun M14 => f_X9_fill_L17 Z x3 k n (x5 + (1 : Int32)) M14))))))
def f_X9_fill_L10 (Z : Nat) : Nat → Int32 → Mem → Option (Unit × Mem)
  | 0, _, _ => none
  | n + 1, x3, M4 => (if (5 : Int32) < x3 then some ((), M4) else f_X9_fill_L17 Z x3 (fun (M18 : Mem) => f_X9_fill_L10 Z n (x3 + (1 : Int32)) M18) Z (0 : Int32) M4)
def f_X9_fill (Z : Nat) (M : Mem)  : Option (Unit × Mem) :=
  cl (f_J7_fill_d0a16 Z M (103) 36 (0 : Int64)) (fun v1 M2 => f_X9_fill_L10 Z Z (1 : Int32) M2)
set_option maxRecDepth 100000 in
theorem l_X9_fill_L17 {Γ : WC} {X : MX} (hN : HN Γ) (C : CX Γ X cX9_fill 4 RX9 none (rmL 3 0 0)) {rM : Unit × Mem} (E : EndN Γ X none rM.2 0 0) {Z : Nat} {x3 : Int32} {k : Mem → Option (Unit × Mem)} (hk : ∀  (Mx : Mem), k Mx = some rM → G Γ X Mx 0 0 [some (.ref (wad Γ 102)), some (.int x3)] [] 62) : ∀ (n : Nat) (x5 : Int32) (M6 : Mem), f_X9_fill_L17 Z x3 k n x5 M6 = some rM → G Γ X M6 0 0 [some (.ref (wad Γ 102)), some (.int x3), some (.int x5)] [] 17 := by
  intro n
  induction n with
  | zero =>
    intro x5 M6 hf
    have hf0 : (none : Option _) = some rM := hf
    cases hf0
  | succ n ih =>
    intro x5 M6 hf
    rw [f_X9_fill_L17] at hf
    refine x_iload_n C rfl rfl (dkAt dk_X9_fill 11 rfl) 18 rfl ?_
    refine x_aload_n C rfl rfl (dkAt dk_X9_fill 12 rfl) 19 rfl ?_
    refine x_getS C lk_RX9_15 (hN.sh sh102) (hN.sr sr102_0) (dkAt dk_X9_fill 13 rfl) 22 rfl ?_
    refine x_getI C lk_RX9_29 (hN.sh sh3) (dkAt dk_X9_fill 14 rfl) 25 rfl hf (fun v7 hf => ?_)
    refine x_icmp_ge C 62 (dkAt dk_X9_fill 15 rfl) 28 rfl (by decide) hf (fun hf => ?_) (fun hf => ?_)
    · exact G.weak (L := [some (.ref (wad Γ 102)), some (.int x3)]) ⟨rfl, rfl, trivial⟩ (hk _ hf)
    · refine x_aload_n C rfl rfl (dkAt dk_X9_fill 16 rfl) 29 rfl ?_
      refine x_iload_n C rfl rfl (dkAt dk_X9_fill 17 rfl) 30 rfl ?_
      refine x_iload_n C rfl rfl (dkAt dk_X9_fill 18 rfl) 31 rfl ?_
      obtain ⟨v8, M9, h17, hf⟩ := cl_inv hf
      refine x_cVi C (c_X9_firstAction hN h17) mw_X9_firstAction ln_RX9_35 mi_X9_firstAction (hN.rc (ci := 9) sh102 rc9) (ro_of (by decide) (by decide) (by decide) (by decide)) rfl rfl (Nat.le_of_ble_eq_true rfl) (dkAt dk_X9_fill 19 rfl) 34 rfl 0 0 rfl rfl ?_
      refine x_istore_n C (L1 := [some (.ref (wad Γ 102)), some (.int x3), some (.int x5), some (.int v8)]) (dkAt dk_X9_fill 20 rfl) 35 rfl rfl (by decide) rfl ?_
      refine x_aload_n C rfl rfl (dkAt dk_X9_fill 21 rfl) 36 rfl ?_
      refine x_getS C lk_RX9_9 (hN.sh sh102) (hN.sr sr102_2) (dkAt dk_X9_fill 22 rfl) 39 rfl ?_
      refine x_iload_n C rfl rfl (dkAt dk_X9_fill 23 rfl) 40 rfl ?_
      refine x_bipush C (v := (6 : Int32)) (by decide) (dkAt dk_X9_fill 24 rfl) 42 rfl ?_
      refine x_imul C (dkAt dk_X9_fill 25 rfl) 43 rfl ?_
      refine x_iload_n C rfl rfl (dkAt dk_X9_fill 26 rfl) 44 rfl ?_
      refine x_iadd C (dkAt dk_X9_fill 27 rfl) 45 rfl ?_
      refine x_aload_n C rfl rfl (dkAt dk_X9_fill 28 rfl) 46 rfl ?_
      refine x_iload_n C rfl rfl (dkAt dk_X9_fill 29 rfl) 47 rfl ?_
      refine x_iload_n C rfl rfl (dkAt dk_X9_fill 30 rfl) 48 rfl ?_
      obtain ⟨v10, M11, h16, hf⟩ := cl_inv hf
      refine x_cNi C (c_X11_rowOf hN h16) mw_X11_rowOf ln_RX9_39 ms_X11_rowOf (ro_of (by decide) (by decide) (by decide) (by decide)) rfl rfl (Nat.le_of_ble_eq_true rfl) (dkAt dk_X9_fill 31 rfl) 51 rfl 0 0 rfl rfl ?_
      refine x_iload_n C rfl rfl (dkAt dk_X9_fill 32 rfl) 52 rfl ?_
      obtain ⟨v12, M13, h15, hf⟩ := cl_inv hf
      refine x_cVl C (c_X9_valueOver hN h15) mw_X9_valueOver ln_RX9_42 mi_X9_valueOver (hN.rc (ci := 9) sh102 rc9) (ro_of (by decide) (by decide) (by decide) (by decide)) rfl rfl (Nat.le_of_ble_eq_true rfl) (dkAt dk_X9_fill 33 rfl) 55 rfl 0 0 rfl rfl ?_
      refine x_last C (hN.sh sh103) (dkAt dk_X9_fill 34 rfl) 56 rfl hf (fun M14 hf => ?_)
      refine x_iinc C (v := (x5 + (1 : Int32))) (L1 := [some (.ref (wad Γ 102)), some (.int x3), some (.int (x5 + (1 : Int32))), some (.int v8)]) (dkAt dk_X9_fill 35 rfl) 59 rfl rfl rfl (by decide) rfl ?_
      refine x_goto C 17 (dkAt dk_X9_fill 36 rfl) (by decide) ?_
      exact G.weak (L := [some (.ref (wad Γ 102)), some (.int x3), some (.int (x5 + (1 : Int32)))]) ⟨rfl, rfl, rfl, trivial⟩ (ih _ _ hf)
set_option maxRecDepth 100000 in
theorem l_X9_fill_L10 {Γ : WC} {X : MX} (hN : HN Γ) (C : CX Γ X cX9_fill 4 RX9 none (rmL 3 0 0)) {rM : Unit × Mem} (E : EndN Γ X none rM.2 0 0) {Z : Nat} : ∀ (n : Nat) (x3 : Int32) (M4 : Mem), f_X9_fill_L10 Z n x3 M4 = some rM → G Γ X M4 0 0 [some (.ref (wad Γ 102)), some (.int x3)] [] 10 := by
  intro n
  induction n with
  | zero =>
    intro x3 M4 hf
    have hf0 : (none : Option _) = some rM := hf
    cases hf0
  | succ n ih =>
    intro x3 M4 hf
    rw [f_X9_fill_L10] at hf
    refine x_iload_n C rfl rfl (dkAt dk_X9_fill 6 rfl) 11 rfl ?_
    refine x_iconst C (v := (5 : Int32)) (by decide) (dkAt dk_X9_fill 7 rfl) 12 rfl ?_
    refine x_icmp_gt C 68 (dkAt dk_X9_fill 8 rfl) 15 rfl (by decide) hf (fun hf => ?_) (fun hf => ?_)
    · exact x_vret C E hf (by decide) (by decide) (dkAt dk_X9_fill 39 rfl)
    · refine x_iconst C (v := (0 : Int32)) (by decide) (dkAt dk_X9_fill 9 rfl) 16 rfl ?_
      refine x_istore_n C (L1 := [some (.ref (wad Γ 102)), some (.int x3), some (.int (0 : Int32))]) (dkAt dk_X9_fill 10 rfl) 17 rfl rfl (by decide) rfl ?_
      refine G.weak (L := [some (.ref (wad Γ 102)), some (.int x3), some (.int (0 : Int32))]) ⟨rfl, rfl, rfl, trivial⟩ ?_
      refine l_X9_fill_L17 hN C E ?_ Z _ _ hf
      intro M18 hf
      refine x_iinc C (v := (x3 + (1 : Int32))) (L1 := [some (.ref (wad Γ 102)), some (.int (x3 + (1 : Int32)))]) (dkAt dk_X9_fill 37 rfl) 65 rfl rfl rfl (by decide) rfl ?_
      refine x_goto C 10 (dkAt dk_X9_fill 38 rfl) (by decide) ?_
      exact G.weak (L := [some (.ref (wad Γ 102)), some (.int (x3 + (1 : Int32)))]) ⟨rfl, rfl, trivial⟩ (ih _ _ hf)
set_option maxRecDepth 100000 in
theorem c_X9_fill {Γ : WC} (hN : HN Γ) {Z : Nat} {M : Mem}  {rM : Unit × Mem}  (hf : f_X9_fill Z M  = some rM) : Ct Γ yX9_fill cX9_fill 4 none (rmL 3 0 0) [.ref (wad Γ 102)] M none rM.2 := by
  refine mkN hN.1 (own := RX9) rfl (by decide) (Nat.le_of_ble_eq_true rfl) (fun X C E => ?_)
  change G Γ X M 0 0 [some (.ref (wad Γ 102))] [] 0
  unfold f_X9_fill at hf
  refine x_aload_n C rfl rfl (dkAt dk_X9_fill 0 rfl) 1 rfl ?_
  refine x_getS C lk_RX9_9 (hN.sh sh102) (hN.sr sr102_2) (dkAt dk_X9_fill 1 rfl) 4 rfl ?_
  refine x_lconst C (v := (0 : Int64)) (by decide) (dkAt dk_X9_fill 2 rfl) 5 rfl ?_
  obtain ⟨v1, M2, h19, hf⟩ := cl_inv hf
  refine x_cSv C (c_J7_fill_d0a16 hN sh103 h19) mw_J7_fill_d0a16 ln_RX9_23 ms_J7_fill_d0a16 (ro_of (by decide) (by decide) (by decide) (by decide)) rfl rfl (Nat.le_of_ble_eq_true rfl) (dkAt dk_X9_fill 3 rfl) 8 rfl 0 0 rfl rfl ?_
  refine x_iconst C (v := (1 : Int32)) (by decide) (dkAt dk_X9_fill 4 rfl) 9 rfl ?_
  refine x_istore_n C (L1 := [some (.ref (wad Γ 102)), some (.int (1 : Int32))]) (dkAt dk_X9_fill 5 rfl) 10 rfl rfl (by decide) rfl ?_
  refine G.weak (L := [some (.ref (wad Γ 102)), some (.int (1 : Int32))]) ⟨rfl, rfl, trivial⟩ ?_
  refine l_X9_fill_L10 hN C E Z _ _ hf
def f_X10_draw (Z : Nat) (M : Mem)  : Option (Int32 × Mem) :=
  bd (gI M (104) 1) (fun v1 => nzI (30011 : Int32) (bd (sI M (104) 1 (((v1 * (109 : Int32)) + (1021 : Int32)) - ((v1 * (109 : Int32)) + (1021 : Int32)) / (30011 : Int32) * (30011 : Int32))) (fun M2 => bd (gI M2 (104) 1) (fun v3 => some (v3, M2)))))
set_option maxRecDepth 100000 in
theorem c_X10_draw {Γ : WC} (hN : HN Γ) {Z : Nat} {M : Mem}  {rM : Int32 × Mem}  (hf : f_X10_draw Z M  = some rM) : Ct Γ yX10_draw cX10_draw 1 (some .int) (rmL 0 0 0) [.ref (wad Γ 104)] M (some (.int rM.1)) rM.2 := by
  refine mkN hN.1 (own := RX10) rfl (by decide) (Nat.le_of_ble_eq_true rfl) (fun X C E => ?_)
  change G Γ X M 0 0 [some (.ref (wad Γ 104))] [] 0
  unfold f_X10_draw at hf
  refine x_aload_n C rfl rfl (dkAt dk_X10_draw 0 rfl) 1 rfl ?_
  refine x_aload_n C rfl rfl (dkAt dk_X10_draw 1 rfl) 2 rfl ?_
  refine x_getI C lk_RX10_58 (hN.sh sh104) (dkAt dk_X10_draw 2 rfl) 5 rfl hf (fun v1 hf => ?_)
  refine x_bipush C (v := (109 : Int32)) (by decide) (dkAt dk_X10_draw 3 rfl) 7 rfl ?_
  refine x_imul C (dkAt dk_X10_draw 4 rfl) 8 rfl ?_
  refine x_sipush C (v := (1021 : Int32)) (by decide) (dkAt dk_X10_draw 5 rfl) 11 rfl ?_
  refine x_iadd C (dkAt dk_X10_draw 6 rfl) 12 rfl ?_
  refine x_sipush C (v := (30011 : Int32)) (by decide) (dkAt dk_X10_draw 7 rfl) 15 rfl ?_
  refine x_irem C (dkAt dk_X10_draw 8 rfl) 16 rfl hf (fun hf => ?_)
  refine x_putI C pk_RX10_58 ⟨_, rfl⟩ (hN.sh sh104) (dkAt dk_X10_draw 9 rfl) 19 rfl hf (fun M2 hf => ?_)
  refine x_aload_n C rfl rfl (dkAt dk_X10_draw 10 rfl) 20 rfl ?_
  refine x_getI C lk_RX10_58 (hN.sh sh104) (dkAt dk_X10_draw 11 rfl) 23 rfl hf (fun v3 hf => ?_)
  exact x_iret C E hf (by decide) (by decide) (dkAt dk_X10_draw 12 rfl)
def f_X10_drawAction_L5 (Z : Nat) (p1 : Int32) : Nat → Int32 → Int32 → Mem → Option (Int32 × Mem)
  | 0, _, _, _ => none
  | n + 1, x1, x2, M3 => bd (gI M3 (104) 2) (fun v4 => rdI M3 4 6 v4 (fun v5 => (if v5 ≤ x2 then some ((0 : Int32), M3) else bd (gI M3 (104) 2) (fun v6 => cl (f_X11_rowOf Z M3 v6 x2) (fun v7 M8 => rdI M8 11 18 v7 (fun v9 => (if (x1 + v9) ≤ p1 then f_X10_drawAction_L5 Z p1 n (x1 + v9) (x2 + (1 : Int32)) M8 else some (x2, M8))))))))
def f_X10_drawAction (Z : Nat) (M : Mem) (p1 : Int32) : Option (Int32 × Mem) :=
  f_X10_drawAction_L5 Z p1 Z (0 : Int32) (0 : Int32) M
set_option maxRecDepth 100000 in
theorem l_X10_drawAction_L5 {Γ : WC} {X : MX} (hN : HN Γ) (C : CX Γ X cX10_drawAction 5 RX10 (some .int) (rmL 1 0 0)) {rM : Int32 × Mem} (E : EndN Γ X (some (.int rM.1)) rM.2 0 0) {Z : Nat} {p1 : Int32} : ∀ (n : Nat) (x1 : Int32) (x2 : Int32) (M3 : Mem), f_X10_drawAction_L5 Z p1 n x1 x2 M3 = some rM → G Γ X M3 0 0 [some (.ref (wad Γ 104)), some (.ref (wad Γ 11)), some (.int p1), some (.int x1), some (.int x2)] [] 5 := by
  intro n
  induction n with
  | zero =>
    intro x1 x2 M3 hf
    have hf0 : (none : Option _) = some rM := hf
    cases hf0
  | succ n ih =>
    intro x1 x2 M3 hf
    rw [f_X10_drawAction_L5] at hf
    refine x_iload C rfl (dkAt dk_X10_drawAction 4 rfl) 7 rfl ?_
    refine x_aload_n C rfl rfl (dkAt dk_X10_drawAction 5 rfl) 8 rfl ?_
    refine x_getS C lk_RX10_9 (hN.sh sh104) (hN.sr sr104_0) (dkAt dk_X10_drawAction 6 rfl) 11 rfl ?_
    refine x_getS C lk_RX10_61 (hN.sh sh3) (hN.sr sr3_2) (dkAt dk_X10_drawAction 7 rfl) 14 rfl ?_
    refine x_aload_n C rfl rfl (dkAt dk_X10_drawAction 8 rfl) 15 rfl ?_
    refine x_getI C lk_RX10_27 (hN.sh sh104) (dkAt dk_X10_drawAction 9 rfl) 18 rfl hf (fun v4 hf => ?_)
    refine x_iald C (hN.sh sh4) (dkAt dk_X10_drawAction 10 rfl) 19 rfl hf (fun v5 hf => ?_)
    refine x_icmp_ge C 50 (dkAt dk_X10_drawAction 11 rfl) 22 rfl (by decide) hf (fun hf => ?_) (fun hf => ?_)
    · refine x_iconst C (v := (0 : Int32)) (by decide) (dkAt dk_X10_drawAction 28 rfl) 51 rfl ?_
      exact x_iret C E hf (by decide) (by decide) (dkAt dk_X10_drawAction 29 rfl)
    · refine x_iload_n C rfl rfl (dkAt dk_X10_drawAction 12 rfl) 23 rfl ?_
      refine x_aload_n C rfl rfl (dkAt dk_X10_drawAction 13 rfl) 24 rfl ?_
      refine x_aload_n C rfl rfl (dkAt dk_X10_drawAction 14 rfl) 25 rfl ?_
      refine x_getI C lk_RX10_27 (hN.sh sh104) (dkAt dk_X10_drawAction 15 rfl) 28 rfl hf (fun v6 hf => ?_)
      refine x_iload C rfl (dkAt dk_X10_drawAction 16 rfl) 30 rfl ?_
      obtain ⟨v7, M8, h10, hf⟩ := cl_inv hf
      refine x_cNi C (c_X11_rowOf hN h10) mw_X11_rowOf ln_RX10_30 ms_X11_rowOf (ro_of (by decide) (by decide) (by decide) (by decide)) rfl rfl (Nat.le_of_ble_eq_true rfl) (dkAt dk_X10_drawAction 17 rfl) 33 rfl 0 0 rfl rfl ?_
      refine x_iald C (hN.sh sh11) (dkAt dk_X10_drawAction 18 rfl) 34 rfl hf (fun v9 hf => ?_)
      refine x_iadd C (dkAt dk_X10_drawAction 19 rfl) 35 rfl ?_
      refine x_istore_n C (L1 := [some (.ref (wad Γ 104)), some (.ref (wad Γ 11)), some (.int p1), some (.int (x1 + v9)), some (.int x2)]) (dkAt dk_X10_drawAction 20 rfl) 36 rfl rfl (by decide) rfl ?_
      refine x_iload_n C rfl rfl (dkAt dk_X10_drawAction 21 rfl) 37 rfl ?_
      refine x_iload_n C rfl rfl (dkAt dk_X10_drawAction 22 rfl) 38 rfl ?_
      refine x_icmp_le C 44 (dkAt dk_X10_drawAction 23 rfl) 41 rfl (by decide) hf (fun hf => ?_) (fun hf => ?_)
      · refine x_iinc C (v := (x2 + (1 : Int32))) (L1 := [some (.ref (wad Γ 104)), some (.ref (wad Γ 11)), some (.int p1), some (.int (x1 + v9)), some (.int (x2 + (1 : Int32)))]) (dkAt dk_X10_drawAction 26 rfl) 47 rfl rfl rfl (by decide) rfl ?_
        refine x_goto C 5 (dkAt dk_X10_drawAction 27 rfl) (by decide) ?_
        exact G.weak (L := [some (.ref (wad Γ 104)), some (.ref (wad Γ 11)), some (.int p1), some (.int (x1 + v9)), some (.int (x2 + (1 : Int32)))]) ⟨rfl, rfl, rfl, rfl, rfl, trivial⟩ (ih _ _ _ hf)
      · refine x_iload C rfl (dkAt dk_X10_drawAction 24 rfl) 43 rfl ?_
        exact x_iret C E hf (by decide) (by decide) (dkAt dk_X10_drawAction 25 rfl)
set_option maxRecDepth 100000 in
theorem c_X10_drawAction {Γ : WC} (hN : HN Γ) {Z : Nat} {M : Mem} {p1 : Int32} {rM : Int32 × Mem}  (hf : f_X10_drawAction Z M p1 = some rM) : Ct Γ yX10_drawAction cX10_drawAction 5 (some .int) (rmL 1 0 0) [.ref (wad Γ 104), .ref (wad Γ 11), .int p1] M (some (.int rM.1)) rM.2 := by
  refine mkN hN.1 (own := RX10) rfl (by decide) (Nat.le_of_ble_eq_true rfl) (fun X C E => ?_)
  change G Γ X M 0 0 [some (.ref (wad Γ 104)), some (.ref (wad Γ 11)), some (.int p1)] [] 0
  unfold f_X10_drawAction at hf
  refine x_iconst C (v := (0 : Int32)) (by decide) (dkAt dk_X10_drawAction 0 rfl) 1 rfl ?_
  refine x_istore_n C (L1 := [some (.ref (wad Γ 104)), some (.ref (wad Γ 11)), some (.int p1), some (.int (0 : Int32))]) (dkAt dk_X10_drawAction 1 rfl) 2 rfl rfl (by decide) rfl ?_
  refine x_iconst C (v := (0 : Int32)) (by decide) (dkAt dk_X10_drawAction 2 rfl) 3 rfl ?_
  refine x_istore C (L1 := [some (.ref (wad Γ 104)), some (.ref (wad Γ 11)), some (.int p1), some (.int (0 : Int32)), some (.int (0 : Int32))]) (dkAt dk_X10_drawAction 3 rfl) 5 rfl (by decide) rfl ?_
  refine G.weak (L := [some (.ref (wad Γ 104)), some (.ref (wad Γ 11)), some (.int p1), some (.int (0 : Int32)), some (.int (0 : Int32))]) ⟨rfl, rfl, rfl, rfl, rfl, trivial⟩ ?_
  refine l_X10_drawAction_L5 hN C E Z _ _ _ hf
def f_X10_drawNext_L5 (Z : Nat) (p0 : Int32) (p1 : Int32) : Nat → Int32 → Int32 → Mem → Option (Int32 × Mem)
  | 0, _, _, _ => none
  | n + 1, x1, x2, M3 => rdI M3 9 18 p0 (fun v4 => (if v4 ≤ x2 then bd (gI M3 (104) 2) (fun v5 => some (v5, M3)) else rdI M3 8 108 ((p0 * (6 : Int32)) + x2) (fun v6 => cl (f_X0_percentTo Z M3 (3) p0 v6) (fun v7 M8 => (if (x1 + v7) ≤ p1 then f_X10_drawNext_L5 Z p0 p1 n (x1 + v7) (x2 + (1 : Int32)) M8 else some (v6, M8))))))
def f_X10_drawNext (Z : Nat) (M : Mem) (p0 : Int32) (p1 : Int32) : Option (Int32 × Mem) :=
  f_X10_drawNext_L5 Z p0 p1 Z (0 : Int32) (0 : Int32) M
set_option maxRecDepth 100000 in
theorem l_X10_drawNext_L5 {Γ : WC} {X : MX} (hN : HN Γ) (C : CX Γ X cX10_drawNext 6 RX10 (some .int) (rmL 1 0 0)) {rM : Int32 × Mem} (E : EndN Γ X (some (.int rM.1)) rM.2 0 0) {Z : Nat} {p0 : Int32} {p1 : Int32} : ∀ (n : Nat) (x1 : Int32) (x2 : Int32) (M3 : Mem), f_X10_drawNext_L5 Z p0 p1 n x1 x2 M3 = some rM → G Γ X M3 0 0 [some (.ref (wad Γ 104)), some (.int p0), some (.int p1), some (.int x1), some (.int x2)] [] 5 := by
  intro n
  induction n with
  | zero =>
    intro x1 x2 M3 hf
    have hf0 : (none : Option _) = some rM := hf
    cases hf0
  | succ n ih =>
    intro x1 x2 M3 hf
    rw [f_X10_drawNext_L5] at hf
    refine x_iload C rfl (dkAt dk_X10_drawNext 4 rfl) 7 rfl ?_
    refine x_aload_n C rfl rfl (dkAt dk_X10_drawNext 5 rfl) 8 rfl ?_
    refine x_getS C lk_RX10_9 (hN.sh sh104) (hN.sr sr104_0) (dkAt dk_X10_drawNext 6 rfl) 11 rfl ?_
    refine x_getS C lk_RX10_64 (hN.sh sh3) (hN.sr sr3_7) (dkAt dk_X10_drawNext 7 rfl) 14 rfl ?_
    refine x_iload_n C rfl rfl (dkAt dk_X10_drawNext 8 rfl) 15 rfl ?_
    refine x_iald C (hN.sh sh9) (dkAt dk_X10_drawNext 9 rfl) 16 rfl hf (fun v4 hf => ?_)
    refine x_icmp_ge C 63 (dkAt dk_X10_drawNext 10 rfl) 19 rfl (by decide) hf (fun hf => ?_) (fun hf => ?_)
    · refine x_aload_n C rfl rfl (dkAt dk_X10_drawNext 36 rfl) 64 rfl ?_
      refine x_getI C lk_RX10_27 (hN.sh sh104) (dkAt dk_X10_drawNext 37 rfl) 67 rfl hf (fun v5 hf => ?_)
      exact x_iret C E hf (by decide) (by decide) (dkAt dk_X10_drawNext 38 rfl)
    · refine x_aload_n C rfl rfl (dkAt dk_X10_drawNext 11 rfl) 20 rfl ?_
      refine x_getS C lk_RX10_9 (hN.sh sh104) (hN.sr sr104_0) (dkAt dk_X10_drawNext 12 rfl) 23 rfl ?_
      refine x_getS C lk_RX10_67 (hN.sh sh3) (hN.sr sr3_6) (dkAt dk_X10_drawNext 13 rfl) 26 rfl ?_
      refine x_iload_n C rfl rfl (dkAt dk_X10_drawNext 14 rfl) 27 rfl ?_
      refine x_bipush C (v := (6 : Int32)) (by decide) (dkAt dk_X10_drawNext 15 rfl) 29 rfl ?_
      refine x_imul C (dkAt dk_X10_drawNext 16 rfl) 30 rfl ?_
      refine x_iload C rfl (dkAt dk_X10_drawNext 17 rfl) 32 rfl ?_
      refine x_iadd C (dkAt dk_X10_drawNext 18 rfl) 33 rfl ?_
      refine x_iald C (hN.sh sh8) (dkAt dk_X10_drawNext 19 rfl) 34 rfl hf (fun v6 hf => ?_)
      refine x_istore C (L1 := [some (.ref (wad Γ 104)), some (.int p0), some (.int p1), some (.int x1), some (.int x2), some (.int v6)]) (dkAt dk_X10_drawNext 20 rfl) 36 rfl (by decide) rfl ?_
      refine x_iload_n C rfl rfl (dkAt dk_X10_drawNext 21 rfl) 37 rfl ?_
      refine x_aload_n C rfl rfl (dkAt dk_X10_drawNext 22 rfl) 38 rfl ?_
      refine x_getS C lk_RX10_9 (hN.sh sh104) (hN.sr sr104_0) (dkAt dk_X10_drawNext 23 rfl) 41 rfl ?_
      refine x_iload_n C rfl rfl (dkAt dk_X10_drawNext 24 rfl) 42 rfl ?_
      refine x_iload C rfl (dkAt dk_X10_drawNext 25 rfl) 44 rfl ?_
      obtain ⟨v7, M8, h9, hf⟩ := cl_inv hf
      refine x_cVi C (c_X0_percentTo hN sh3 h9) mw_X0_percentTo ln_RX10_70 mi_X0_percentTo (hN.rc (ci := 0) sh3 rc0) (ro_of (by decide) (by decide) (by decide) (by decide)) rfl rfl (Nat.le_of_ble_eq_true rfl) (dkAt dk_X10_drawNext 26 rfl) 47 rfl 0 0 rfl rfl ?_
      refine x_iadd C (dkAt dk_X10_drawNext 27 rfl) 48 rfl ?_
      refine x_istore_n C (L1 := [some (.ref (wad Γ 104)), some (.int p0), some (.int p1), some (.int (x1 + v7)), some (.int x2), some (.int v6)]) (dkAt dk_X10_drawNext 28 rfl) 49 rfl rfl (by decide) rfl ?_
      refine x_iload_n C rfl rfl (dkAt dk_X10_drawNext 29 rfl) 50 rfl ?_
      refine x_iload_n C rfl rfl (dkAt dk_X10_drawNext 30 rfl) 51 rfl ?_
      refine x_icmp_le C 57 (dkAt dk_X10_drawNext 31 rfl) 54 rfl (by decide) hf (fun hf => ?_) (fun hf => ?_)
      · refine x_iinc C (v := (x2 + (1 : Int32))) (L1 := [some (.ref (wad Γ 104)), some (.int p0), some (.int p1), some (.int (x1 + v7)), some (.int (x2 + (1 : Int32))), some (.int v6)]) (dkAt dk_X10_drawNext 34 rfl) 60 rfl rfl rfl (by decide) rfl ?_
        refine x_goto C 5 (dkAt dk_X10_drawNext 35 rfl) (by decide) ?_
        exact G.weak (L := [some (.ref (wad Γ 104)), some (.int p0), some (.int p1), some (.int (x1 + v7)), some (.int (x2 + (1 : Int32)))]) ⟨rfl, rfl, rfl, rfl, rfl, trivial⟩ (ih _ _ _ hf)
      · refine x_iload C rfl (dkAt dk_X10_drawNext 32 rfl) 56 rfl ?_
        exact x_iret C E hf (by decide) (by decide) (dkAt dk_X10_drawNext 33 rfl)
set_option maxRecDepth 100000 in
theorem c_X10_drawNext {Γ : WC} (hN : HN Γ) {Z : Nat} {M : Mem} {p0 : Int32} {p1 : Int32} {rM : Int32 × Mem}  (hf : f_X10_drawNext Z M p0 p1 = some rM) : Ct Γ yX10_drawNext cX10_drawNext 6 (some .int) (rmL 1 0 0) [.ref (wad Γ 104), .int p0, .int p1] M (some (.int rM.1)) rM.2 := by
  refine mkN hN.1 (own := RX10) rfl (by decide) (Nat.le_of_ble_eq_true rfl) (fun X C E => ?_)
  change G Γ X M 0 0 [some (.ref (wad Γ 104)), some (.int p0), some (.int p1)] [] 0
  unfold f_X10_drawNext at hf
  refine x_iconst C (v := (0 : Int32)) (by decide) (dkAt dk_X10_drawNext 0 rfl) 1 rfl ?_
  refine x_istore_n C (L1 := [some (.ref (wad Γ 104)), some (.int p0), some (.int p1), some (.int (0 : Int32))]) (dkAt dk_X10_drawNext 1 rfl) 2 rfl rfl (by decide) rfl ?_
  refine x_iconst C (v := (0 : Int32)) (by decide) (dkAt dk_X10_drawNext 2 rfl) 3 rfl ?_
  refine x_istore C (L1 := [some (.ref (wad Γ 104)), some (.int p0), some (.int p1), some (.int (0 : Int32)), some (.int (0 : Int32))]) (dkAt dk_X10_drawNext 3 rfl) 5 rfl (by decide) rfl ?_
  refine G.weak (L := [some (.ref (wad Γ 104)), some (.int p0), some (.int p1), some (.int (0 : Int32)), some (.int (0 : Int32))]) ⟨rfl, rfl, rfl, rfl, rfl, trivial⟩ ?_
  refine l_X10_drawNext_L5 hN C E Z _ _ _ hf
def f_X10_step (Z : Nat) (M : Mem)  : Option (Unit × Mem) :=
  cl (f_X10_draw Z M) (fun v1 M2 => nzI (10 : Int32) (cl (f_X10_drawAction Z M2 (v1 - v1 / (10 : Int32) * (10 : Int32))) (fun v3 M4 => bd (sI M4 (104) 3 v3) (fun M5 => bd (gI M5 (104) 2) (fun v6 => bd (gI M5 (104) 3) (fun v7 => cl (f_X11_rowOf Z M5 v6 v7) (fun v8 M9 => cl (f_X10_draw Z M9) (fun v10 M11 => nzI (100 : Int32) (cl (f_X10_drawNext Z M11 v8 (v10 - v10 / (100 : Int32) * (100 : Int32))) (fun v12 M13 => bd (sI M13 (104) 2 v12) (fun M14 => some ((), M14))))))))))))
set_option maxRecDepth 100000 in
theorem c_X10_step {Γ : WC} (hN : HN Γ) {Z : Nat} {M : Mem}  {rM : Unit × Mem}  (hf : f_X10_step Z M  = some rM) : Ct Γ yX10_step cX10_step 2 none (rmL 2 0 0) [.ref (wad Γ 104), .ref (wad Γ 11)] M none rM.2 := by
  refine mkN hN.1 (own := RX10) rfl (by decide) (Nat.le_of_ble_eq_true rfl) (fun X C E => ?_)
  change G Γ X M 0 0 [some (.ref (wad Γ 104)), some (.ref (wad Γ 11))] [] 0
  unfold f_X10_step at hf
  refine x_aload_n C rfl rfl (dkAt dk_X10_step 0 rfl) 1 rfl ?_
  refine x_aload_n C rfl rfl (dkAt dk_X10_step 1 rfl) 2 rfl ?_
  refine x_aload_n C rfl rfl (dkAt dk_X10_step 2 rfl) 3 rfl ?_
  refine x_aload_n C rfl rfl (dkAt dk_X10_step 3 rfl) 4 rfl ?_
  obtain ⟨v1, M2, h19, hf⟩ := cl_inv hf
  refine x_cVi C (c_X10_draw hN h19) mw_X10_draw ln_RX10_15 mi_X10_draw (hN.rc (ci := 10) sh104 rc10) (ro_of (by decide) (by decide) (by decide) (by decide)) rfl rfl (Nat.le_of_ble_eq_true rfl) (dkAt dk_X10_step 4 rfl) 7 rfl 0 0 rfl rfl ?_
  refine x_bipush C (v := (10 : Int32)) (by decide) (dkAt dk_X10_step 5 rfl) 9 rfl ?_
  refine x_irem C (dkAt dk_X10_step 6 rfl) 10 rfl hf (fun hf => ?_)
  obtain ⟨v3, M4, h18, hf⟩ := cl_inv hf
  refine x_cVi C (c_X10_drawAction hN h18) mw_X10_drawAction ln_RX10_19 mi_X10_drawAction (hN.rc (ci := 10) sh104 rc10) (ro_of (by decide) (by decide) (by decide) (by decide)) rfl rfl (Nat.le_of_ble_eq_true rfl) (dkAt dk_X10_step 7 rfl) 13 rfl 0 0 rfl rfl ?_
  refine x_putI C pk_RX10_23 ⟨_, rfl⟩ (hN.sh sh104) (dkAt dk_X10_step 8 rfl) 16 rfl hf (fun M5 hf => ?_)
  refine x_aload_n C rfl rfl (dkAt dk_X10_step 9 rfl) 17 rfl ?_
  refine x_aload_n C rfl rfl (dkAt dk_X10_step 10 rfl) 18 rfl ?_
  refine x_aload_n C rfl rfl (dkAt dk_X10_step 11 rfl) 19 rfl ?_
  refine x_getI C lk_RX10_27 (hN.sh sh104) (dkAt dk_X10_step 12 rfl) 22 rfl hf (fun v6 hf => ?_)
  refine x_aload_n C rfl rfl (dkAt dk_X10_step 13 rfl) 23 rfl ?_
  refine x_getI C lk_RX10_23 (hN.sh sh104) (dkAt dk_X10_step 14 rfl) 26 rfl hf (fun v7 hf => ?_)
  obtain ⟨v8, M9, h17, hf⟩ := cl_inv hf
  refine x_cNi C (c_X11_rowOf hN h17) mw_X11_rowOf ln_RX10_30 ms_X11_rowOf (ro_of (by decide) (by decide) (by decide) (by decide)) rfl rfl (Nat.le_of_ble_eq_true rfl) (dkAt dk_X10_step 15 rfl) 29 rfl 0 0 rfl rfl ?_
  refine x_aload_n C rfl rfl (dkAt dk_X10_step 16 rfl) 30 rfl ?_
  obtain ⟨v10, M11, h16, hf⟩ := cl_inv hf
  refine x_cVi C (c_X10_draw hN h16) mw_X10_draw ln_RX10_15 mi_X10_draw (hN.rc (ci := 10) sh104 rc10) (ro_of (by decide) (by decide) (by decide) (by decide)) rfl rfl (Nat.le_of_ble_eq_true rfl) (dkAt dk_X10_step 17 rfl) 33 rfl 0 0 rfl rfl ?_
  refine x_bipush C (v := (100 : Int32)) (by decide) (dkAt dk_X10_step 18 rfl) 35 rfl ?_
  refine x_irem C (dkAt dk_X10_step 19 rfl) 36 rfl hf (fun hf => ?_)
  obtain ⟨v12, M13, h15, hf⟩ := cl_inv hf
  refine x_cVi C (c_X10_drawNext hN h15) mw_X10_drawNext ln_RX10_34 mi_X10_drawNext (hN.rc (ci := 10) sh104 rc10) (ro_of (by decide) (by decide) (by decide) (by decide)) rfl rfl (Nat.le_of_ble_eq_true rfl) (dkAt dk_X10_step 20 rfl) 39 rfl 0 0 rfl rfl ?_
  refine x_putI C pk_RX10_27 ⟨_, rfl⟩ (hN.sh sh104) (dkAt dk_X10_step 21 rfl) 42 rfl hf (fun M14 hf => ?_)
  exact x_vret C E hf (by decide) (by decide) (dkAt dk_X10_step 22 rfl)
def f_X10_gainOfNext_L12 (Z : Nat) : Nat → Int32 → Int32 → Mem → Option (Int32 × Mem)
  | 0, _, _, _ => none
  | n + 1, x3, x4, M5 => bd (gI M5 (10) 4) (fun v6 => (if v6 ≤ x4 then some (x3, M5) else bd (gI M5 (104) 2) (fun v7 => cl (f_X10_step Z M5) (fun v8 M9 => bd (gI M9 (104) 3) (fun v10 => cl (f_X11_rowOf Z M9 v7 v10) (fun v11 M12 => rdI M12 5 18 v11 (fun v13 => f_X10_gainOfNext_L12 Z n (x3 + v13) (x4 + (1 : Int32)) M12)))))))
def f_X10_gainOfNext (Z : Nat) (M : Mem)  : Option (Int32 × Mem) :=
  bd (gI M (10) 3) (fun v1 => bd (sI M (104) 2 v1) (fun M2 => f_X10_gainOfNext_L12 Z Z (0 : Int32) (0 : Int32) M2))
set_option maxRecDepth 100000 in
theorem l_X10_gainOfNext_L12 {Γ : WC} {X : MX} (hN : HN Γ) (C : CX Γ X cX10_gainOfNext 5 RX10 (some .int) (rmL 3 0 0)) {rM : Int32 × Mem} (E : EndN Γ X (some (.int rM.1)) rM.2 0 0) {Z : Nat} : ∀ (n : Nat) (x3 : Int32) (x4 : Int32) (M5 : Mem), f_X10_gainOfNext_L12 Z n x3 x4 M5 = some rM → G Γ X M5 0 0 [some (.ref (wad Γ 104)), some (.ref (wad Γ 10)), some (.int x3), some (.int x4)] [] 12 := by
  intro n
  induction n with
  | zero =>
    intro x3 x4 M5 hf
    have hf0 : (none : Option _) = some rM := hf
    cases hf0
  | succ n ih =>
    intro x3 x4 M5 hf
    rw [f_X10_gainOfNext_L12] at hf
    refine x_iload_n C rfl rfl (dkAt dk_X10_gainOfNext 8 rfl) 13 rfl ?_
    refine x_aload_n C rfl rfl (dkAt dk_X10_gainOfNext 9 rfl) 14 rfl ?_
    refine x_getI C lk_RX10_42 (hN.sh sh10) (dkAt dk_X10_gainOfNext 10 rfl) 17 rfl hf (fun v6 hf => ?_)
    refine x_icmp_ge C 60 (dkAt dk_X10_gainOfNext 11 rfl) 20 rfl (by decide) hf (fun hf => ?_) (fun hf => ?_)
    · refine x_iload_n C rfl rfl (dkAt dk_X10_gainOfNext 32 rfl) 61 rfl ?_
      exact x_iret C E hf (by decide) (by decide) (dkAt dk_X10_gainOfNext 33 rfl)
    · refine x_aload_n C rfl rfl (dkAt dk_X10_gainOfNext 12 rfl) 21 rfl ?_
      refine x_getI C lk_RX10_27 (hN.sh sh104) (dkAt dk_X10_gainOfNext 13 rfl) 24 rfl hf (fun v7 hf => ?_)
      refine x_istore C (L1 := [some (.ref (wad Γ 104)), some (.ref (wad Γ 10)), some (.int x3), some (.int x4), some (.int v7)]) (dkAt dk_X10_gainOfNext 14 rfl) 26 rfl (by decide) rfl ?_
      refine x_aload_n C rfl rfl (dkAt dk_X10_gainOfNext 15 rfl) 27 rfl ?_
      refine x_aload_n C rfl rfl (dkAt dk_X10_gainOfNext 16 rfl) 28 rfl ?_
      refine x_getS C lk_RX10_45 (hN.sh sh10) (hN.sr sr10_0) (dkAt dk_X10_gainOfNext 17 rfl) 31 rfl ?_
      obtain ⟨v8, M9, h15, hf⟩ := cl_inv hf
      refine x_cVv C (c_X10_step hN h15) mw_X10_step ln_RX10_49 mi_X10_step (hN.rc (ci := 10) sh104 rc10) (ro_of (by decide) (by decide) (by decide) (by decide)) rfl rfl (Nat.le_of_ble_eq_true rfl) (dkAt dk_X10_gainOfNext 18 rfl) 34 rfl 0 0 rfl rfl ?_
      refine x_iload_n C rfl rfl (dkAt dk_X10_gainOfNext 19 rfl) 35 rfl ?_
      refine x_aload_n C rfl rfl (dkAt dk_X10_gainOfNext 20 rfl) 36 rfl ?_
      refine x_getS C lk_RX10_9 (hN.sh sh104) (hN.sr sr104_0) (dkAt dk_X10_gainOfNext 21 rfl) 39 rfl ?_
      refine x_getS C lk_RX10_53 (hN.sh sh3) (hN.sr sr3_3) (dkAt dk_X10_gainOfNext 22 rfl) 42 rfl ?_
      refine x_iload C rfl (dkAt dk_X10_gainOfNext 23 rfl) 44 rfl ?_
      refine x_aload_n C rfl rfl (dkAt dk_X10_gainOfNext 24 rfl) 45 rfl ?_
      refine x_getI C lk_RX10_23 (hN.sh sh104) (dkAt dk_X10_gainOfNext 25 rfl) 48 rfl hf (fun v10 hf => ?_)
      obtain ⟨v11, M12, h14, hf⟩ := cl_inv hf
      refine x_cNi C (c_X11_rowOf hN h14) mw_X11_rowOf ln_RX10_30 ms_X11_rowOf (ro_of (by decide) (by decide) (by decide) (by decide)) rfl rfl (Nat.le_of_ble_eq_true rfl) (dkAt dk_X10_gainOfNext 26 rfl) 51 rfl 0 0 rfl rfl ?_
      refine x_iald C (hN.sh sh5) (dkAt dk_X10_gainOfNext 27 rfl) 52 rfl hf (fun v13 hf => ?_)
      refine x_iadd C (dkAt dk_X10_gainOfNext 28 rfl) 53 rfl ?_
      refine x_istore_n C (L1 := [some (.ref (wad Γ 104)), some (.ref (wad Γ 10)), some (.int (x3 + v13)), some (.int x4), some (.int v7)]) (dkAt dk_X10_gainOfNext 29 rfl) 54 rfl rfl (by decide) rfl ?_
      refine x_iinc C (v := (x4 + (1 : Int32))) (L1 := [some (.ref (wad Γ 104)), some (.ref (wad Γ 10)), some (.int (x3 + v13)), some (.int (x4 + (1 : Int32))), some (.int v7)]) (dkAt dk_X10_gainOfNext 30 rfl) 57 rfl rfl rfl (by decide) rfl ?_
      refine x_goto C 12 (dkAt dk_X10_gainOfNext 31 rfl) (by decide) ?_
      exact G.weak (L := [some (.ref (wad Γ 104)), some (.ref (wad Γ 10)), some (.int (x3 + v13)), some (.int (x4 + (1 : Int32)))]) ⟨rfl, rfl, rfl, rfl, trivial⟩ (ih _ _ _ hf)
set_option maxRecDepth 100000 in
theorem c_X10_gainOfNext {Γ : WC} (hN : HN Γ) {Z : Nat} {M : Mem}  {rM : Int32 × Mem}  (hf : f_X10_gainOfNext Z M  = some rM) : Ct Γ yX10_gainOfNext cX10_gainOfNext 5 (some .int) (rmL 3 0 0) [.ref (wad Γ 104), .ref (wad Γ 10)] M (some (.int rM.1)) rM.2 := by
  refine mkN hN.1 (own := RX10) rfl (by decide) (Nat.le_of_ble_eq_true rfl) (fun X C E => ?_)
  change G Γ X M 0 0 [some (.ref (wad Γ 104)), some (.ref (wad Γ 10))] [] 0
  unfold f_X10_gainOfNext at hf
  refine x_aload_n C rfl rfl (dkAt dk_X10_gainOfNext 0 rfl) 1 rfl ?_
  refine x_aload_n C rfl rfl (dkAt dk_X10_gainOfNext 1 rfl) 2 rfl ?_
  refine x_getI C lk_RX10_37 (hN.sh sh10) (dkAt dk_X10_gainOfNext 2 rfl) 5 rfl hf (fun v1 hf => ?_)
  refine x_putI C pk_RX10_27 ⟨_, rfl⟩ (hN.sh sh104) (dkAt dk_X10_gainOfNext 3 rfl) 8 rfl hf (fun M2 hf => ?_)
  refine x_iconst C (v := (0 : Int32)) (by decide) (dkAt dk_X10_gainOfNext 4 rfl) 9 rfl ?_
  refine x_istore_n C (L1 := [some (.ref (wad Γ 104)), some (.ref (wad Γ 10)), some (.int (0 : Int32))]) (dkAt dk_X10_gainOfNext 5 rfl) 10 rfl rfl (by decide) rfl ?_
  refine x_iconst C (v := (0 : Int32)) (by decide) (dkAt dk_X10_gainOfNext 6 rfl) 11 rfl ?_
  refine x_istore_n C (L1 := [some (.ref (wad Γ 104)), some (.ref (wad Γ 10)), some (.int (0 : Int32)), some (.int (0 : Int32))]) (dkAt dk_X10_gainOfNext 7 rfl) 12 rfl rfl (by decide) rfl ?_
  refine G.weak (L := [some (.ref (wad Γ 104)), some (.ref (wad Γ 10)), some (.int (0 : Int32)), some (.int (0 : Int32))]) ⟨rfl, rfl, rfl, rfl, trivial⟩ ?_
  refine l_X10_gainOfNext_L12 hN C E Z _ _ _ hf
def f_X11_append (Z : Nat) (M : Mem) (p0 : Int32) (p1 : Int32) (p2 : Int32) (p3 : Int32) (p4 : Int32) : Option (Int32 × Mem) :=
  cl (f_X2_hasRoom Z M (20 : Int32)) (fun v1 M2 => (if v1 = 0 then some ((-1 : Int32), M2) else cl (f_X2_put Z M2 p0) (fun v3 M4 => cl (f_X2_put Z M4 p1) (fun v5 M6 => cl (f_X2_put Z M6 p2) (fun v7 M8 => cl (f_X2_put Z M8 p3) (fun v9 M10 => cl (f_X2_put Z M10 p4) (fun v11 M12 => bd (gI M12 (1) 1) (fun v13 => some (v13, M12)))))))))
set_option maxRecDepth 100000 in
theorem c_X11_append {Γ : WC} (hN : HN Γ) {Z : Nat} {M : Mem} {p0 : Int32} {p1 : Int32} {p2 : Int32} {p3 : Int32} {p4 : Int32} {rM : Int32 × Mem}  (hf : f_X11_append Z M p0 p1 p2 p3 p4 = some rM) : Ct Γ yX11_append cX11_append 6 (some .int) (rmL 1 0 0) [.ref (wad Γ 0), .int p0, .int p1, .int p2, .int p3, .int p4] M (some (.int rM.1)) rM.2 := by
  refine mkN hN.1 (own := RX11) rfl (by decide) (Nat.le_of_ble_eq_true rfl) (fun X C E => ?_)
  change G Γ X M 0 0 [some (.ref (wad Γ 0)), some (.int p0), some (.int p1), some (.int p2), some (.int p3), some (.int p4)] [] 0
  unfold f_X11_append at hf
  refine x_aload_n C rfl rfl (dkAt dk_X11_append 0 rfl) 1 rfl ?_
  refine x_getS C lk_RX11_25 (hN.sh sh0) (hN.sr sr0_0) (dkAt dk_X11_append 1 rfl) 4 rfl ?_
  refine x_bipush C (v := (20 : Int32)) (by decide) (dkAt dk_X11_append 2 rfl) 6 rfl ?_
  obtain ⟨v1, M2, h19, hf⟩ := cl_inv hf
  refine x_cVi C (c_X2_hasRoom hN h19) mw_X2_hasRoom ln_RX11_100 mi_X2_hasRoom (hN.rc (ci := 2) sh1 rc2) (ro_of (by decide) (by decide) (by decide) (by decide)) rfl rfl (Nat.le_of_ble_eq_true rfl) (dkAt dk_X11_append 3 rfl) 9 rfl 0 0 rfl rfl ?_
  refine x_if_ne C 14 (dkAt dk_X11_append 4 rfl) 12 rfl (by decide) hf (fun hf => ?_) (fun hf => ?_)
  · refine x_aload_n C rfl rfl (dkAt dk_X11_append 7 rfl) 15 rfl ?_
    refine x_getS C lk_RX11_25 (hN.sh sh0) (hN.sr sr0_0) (dkAt dk_X11_append 8 rfl) 18 rfl ?_
    refine x_iload_n C rfl rfl (dkAt dk_X11_append 9 rfl) 19 rfl ?_
    obtain ⟨v3, M4, h18, hf⟩ := cl_inv hf
    refine x_cVv C (c_X2_put hN h18) mw_X2_put ln_RX11_104 mi_X2_put (hN.rc (ci := 2) sh1 rc2) (ro_of (by decide) (by decide) (by decide) (by decide)) rfl rfl (Nat.le_of_ble_eq_true rfl) (dkAt dk_X11_append 10 rfl) 22 rfl 0 0 rfl rfl ?_
    refine x_aload_n C rfl rfl (dkAt dk_X11_append 11 rfl) 23 rfl ?_
    refine x_getS C lk_RX11_25 (hN.sh sh0) (hN.sr sr0_0) (dkAt dk_X11_append 12 rfl) 26 rfl ?_
    refine x_iload_n C rfl rfl (dkAt dk_X11_append 13 rfl) 27 rfl ?_
    obtain ⟨v5, M6, h17, hf⟩ := cl_inv hf
    refine x_cVv C (c_X2_put hN h17) mw_X2_put ln_RX11_104 mi_X2_put (hN.rc (ci := 2) sh1 rc2) (ro_of (by decide) (by decide) (by decide) (by decide)) rfl rfl (Nat.le_of_ble_eq_true rfl) (dkAt dk_X11_append 14 rfl) 30 rfl 0 0 rfl rfl ?_
    refine x_aload_n C rfl rfl (dkAt dk_X11_append 15 rfl) 31 rfl ?_
    refine x_getS C lk_RX11_25 (hN.sh sh0) (hN.sr sr0_0) (dkAt dk_X11_append 16 rfl) 34 rfl ?_
    refine x_iload_n C rfl rfl (dkAt dk_X11_append 17 rfl) 35 rfl ?_
    obtain ⟨v7, M8, h16, hf⟩ := cl_inv hf
    refine x_cVv C (c_X2_put hN h16) mw_X2_put ln_RX11_104 mi_X2_put (hN.rc (ci := 2) sh1 rc2) (ro_of (by decide) (by decide) (by decide) (by decide)) rfl rfl (Nat.le_of_ble_eq_true rfl) (dkAt dk_X11_append 18 rfl) 38 rfl 0 0 rfl rfl ?_
    refine x_aload_n C rfl rfl (dkAt dk_X11_append 19 rfl) 39 rfl ?_
    refine x_getS C lk_RX11_25 (hN.sh sh0) (hN.sr sr0_0) (dkAt dk_X11_append 20 rfl) 42 rfl ?_
    refine x_iload C rfl (dkAt dk_X11_append 21 rfl) 44 rfl ?_
    obtain ⟨v9, M10, h15, hf⟩ := cl_inv hf
    refine x_cVv C (c_X2_put hN h15) mw_X2_put ln_RX11_104 mi_X2_put (hN.rc (ci := 2) sh1 rc2) (ro_of (by decide) (by decide) (by decide) (by decide)) rfl rfl (Nat.le_of_ble_eq_true rfl) (dkAt dk_X11_append 22 rfl) 47 rfl 0 0 rfl rfl ?_
    refine x_aload_n C rfl rfl (dkAt dk_X11_append 23 rfl) 48 rfl ?_
    refine x_getS C lk_RX11_25 (hN.sh sh0) (hN.sr sr0_0) (dkAt dk_X11_append 24 rfl) 51 rfl ?_
    refine x_iload C rfl (dkAt dk_X11_append 25 rfl) 53 rfl ?_
    obtain ⟨v11, M12, h14, hf⟩ := cl_inv hf
    refine x_cVv C (c_X2_put hN h14) mw_X2_put ln_RX11_104 mi_X2_put (hN.rc (ci := 2) sh1 rc2) (ro_of (by decide) (by decide) (by decide) (by decide)) rfl rfl (Nat.le_of_ble_eq_true rfl) (dkAt dk_X11_append 26 rfl) 56 rfl 0 0 rfl rfl ?_
    refine x_aload_n C rfl rfl (dkAt dk_X11_append 27 rfl) 57 rfl ?_
    refine x_getS C lk_RX11_25 (hN.sh sh0) (hN.sr sr0_0) (dkAt dk_X11_append 28 rfl) 60 rfl ?_
    refine x_getI C lk_RX11_108 (hN.sh sh1) (dkAt dk_X11_append 29 rfl) 63 rfl hf (fun v13 hf => ?_)
    exact x_iret C E hf (by decide) (by decide) (dkAt dk_X11_append 30 rfl)
  · refine x_iconst C (v := (-1 : Int32)) (by decide) (dkAt dk_X11_append 5 rfl) 13 rfl ?_
    exact x_iret C E hf (by decide) (by decide) (dkAt dk_X11_append 6 rfl)
def f_X11_load (Z : Nat) (M : Mem) (p0 : Int32) : Option (Except Nat Int32 × Mem) :=
  (if p0 < 0 then some (.error 1, M) else bd (gI M (1) 1) (fun v1 => (if p0 ≤ v1 then cl (f_X4_parse Z M p0) (fun v2 M3 => bd (sI M3 (1) 1 (0 : Int32)) (fun M4 => (if v2 = 0 then some (.error 2, M4) else cl (f_X0_copyFrom Z M4 (3) (22)) (fun v5 M6 => cl (f_X7_copyFrom Z M6 (10) (29)) (fun v7 M8 => cl (f_X3_forget Z M8) (fun v9 M10 => cl (f_X5_forget Z M10) (fun v11 M12 => cl (f_X0_countActions Z M12 (3)) (fun v13 M14 => some (.ok v13, M14))))))))) else some (.error 1, M))))
set_option maxRecDepth 100000 in
theorem c_X11_load {Γ : WC} (hN : HN Γ) {Z : Nat} {M : Mem} {p0 : Int32} {rM : Except Nat Int32 × Mem}  (hf : f_X11_load Z M p0 = some rM) : CtT Γ yX11_load cX11_load 3 (some .int) (rmL 11 1 6) [.ref (wad Γ 0), .int p0] M (fun v => some (.int v)) rM := by
  refine mkT hN.1 (own := RX11) rfl (by decide) (Nat.le_of_ble_eq_true rfl) (fun X C E => ?_)
  change G Γ X M 0 0 [some (.ref (wad Γ 0)), some (.int p0)] [] 0
  unfold f_X11_load at hf
  refine x_iload_n C rfl rfl (dkAt dk_X11_load 0 rfl) 1 rfl ?_
  refine x_if_lt C 15 (dkAt dk_X11_load 1 rfl) 4 rfl (by decide) hf (fun hf => ?_) (fun hf => ?_)
  · exact t_throw C E (n9 := 1) hf (by decide) (by decide) ⟨by decide, by decide, by decide, by decide⟩ (Nat.le_of_ble_eq_true rfl) (by decide) th_RX11_112_116.1 th_RX11_112_116.2.1 (hN.st (i := 11) rfl) th_RX11_112_116.2.2.1 th_RX11_112_116.2.2.2 (dkAt dk_X11_load 7 rfl) (dkAt dk_X11_load 8 rfl) (dkAt dk_X11_load 9 rfl) (dkAt dk_X11_load 10 rfl) (dkAt dk_X11_load 11 rfl)
  · refine x_iload_n C rfl rfl (dkAt dk_X11_load 2 rfl) 5 rfl ?_
    refine x_aload_n C rfl rfl (dkAt dk_X11_load 3 rfl) 6 rfl ?_
    refine x_getS C lk_RX11_25 (hN.sh sh0) (hN.sr sr0_0) (dkAt dk_X11_load 4 rfl) 9 rfl ?_
    refine x_getI C lk_RX11_108 (hN.sh sh1) (dkAt dk_X11_load 5 rfl) 12 rfl hf (fun v1 hf => ?_)
    refine x_icmp_le C 25 (dkAt dk_X11_load 6 rfl) 15 rfl (by decide) hf (fun hf => ?_) (fun hf => ?_)
    · refine x_aload_n C rfl rfl (dkAt dk_X11_load 12 rfl) 26 rfl ?_
      refine x_getS C lk_RX11_34 (hN.sh sh0) (hN.sr sr0_1) (dkAt dk_X11_load 13 rfl) 29 rfl ?_
      refine x_iload_n C rfl rfl (dkAt dk_X11_load 14 rfl) 30 rfl ?_
      obtain ⟨v2, M3, h20, hf⟩ := cl_inv hf
      refine x_cVi C (c_X4_parse hN h20) mw_X4_parse ln_RX11_119 mi_X4_parse (hN.rc (ci := 4) sh21 rc4) (ro_of (by decide) (by decide) (by decide) (by decide)) rfl rfl (Nat.le_of_ble_eq_true rfl) (dkAt dk_X11_load 15 rfl) 33 rfl 0 0 rfl rfl ?_
      refine x_istore_n C (L1 := [some (.ref (wad Γ 0)), some (.int p0), some (.int v2)]) (dkAt dk_X11_load 16 rfl) 34 rfl rfl (by decide) rfl ?_
      refine x_aload_n C rfl rfl (dkAt dk_X11_load 17 rfl) 35 rfl ?_
      refine x_getS C lk_RX11_25 (hN.sh sh0) (hN.sr sr0_0) (dkAt dk_X11_load 18 rfl) 38 rfl ?_
      refine x_iconst C (v := (0 : Int32)) (by decide) (dkAt dk_X11_load 19 rfl) 39 rfl ?_
      refine x_putI C pk_RX11_108 ⟨_, rfl⟩ (hN.sh sh1) (dkAt dk_X11_load 20 rfl) 42 rfl hf (fun M4 hf => ?_)
      refine x_iload_n C rfl rfl (dkAt dk_X11_load 21 rfl) 43 rfl ?_
      refine x_if_ne C 56 (dkAt dk_X11_load 22 rfl) 46 rfl (by decide) hf (fun hf => ?_) (fun hf => ?_)
      · refine x_aload_n C rfl rfl (dkAt dk_X11_load 28 rfl) 57 rfl ?_
        refine x_getS C lk_RX11_38 (hN.sh sh0) (hN.sr sr0_2) (dkAt dk_X11_load 29 rfl) 60 rfl ?_
        refine x_aload_n C rfl rfl (dkAt dk_X11_load 30 rfl) 61 rfl ?_
        refine x_getS C lk_RX11_34 (hN.sh sh0) (hN.sr sr0_1) (dkAt dk_X11_load 31 rfl) 64 rfl ?_
        refine x_getS C lk_RX11_127 (hN.sh sh21) (hN.sr sr21_0) (dkAt dk_X11_load 32 rfl) 67 rfl ?_
        obtain ⟨v5, M6, h19, hf⟩ := cl_inv hf
        refine x_cVv C (c_X0_copyFrom hN sh3 sh22 h19) mw_X0_copyFrom ln_RX11_128 mi_X0_copyFrom (hN.rc (ci := 0) sh3 rc0) (ro_of (by decide) (by decide) (by decide) (by decide)) rfl rfl (Nat.le_of_ble_eq_true rfl) (dkAt dk_X11_load 33 rfl) 70 rfl 0 0 rfl rfl ?_
        refine x_aload_n C rfl rfl (dkAt dk_X11_load 34 rfl) 71 rfl ?_
        refine x_getS C lk_RX11_42 (hN.sh sh0) (hN.sr sr0_3) (dkAt dk_X11_load 35 rfl) 74 rfl ?_
        refine x_aload_n C rfl rfl (dkAt dk_X11_load 36 rfl) 75 rfl ?_
        refine x_getS C lk_RX11_34 (hN.sh sh0) (hN.sr sr0_1) (dkAt dk_X11_load 37 rfl) 78 rfl ?_
        refine x_getS C lk_RX11_131 (hN.sh sh21) (hN.sr sr21_1) (dkAt dk_X11_load 38 rfl) 81 rfl ?_
        obtain ⟨v7, M8, h18, hf⟩ := cl_inv hf
        refine x_cVv C (c_X7_copyFrom hN sh10 sh29 h18) mw_X7_copyFrom ln_RX11_134 mi_X7_copyFrom (hN.rc (ci := 7) sh10 rc7) (ro_of (by decide) (by decide) (by decide) (by decide)) rfl rfl (Nat.le_of_ble_eq_true rfl) (dkAt dk_X11_load 39 rfl) 84 rfl 0 0 rfl rfl ?_
        refine x_aload_n C rfl rfl (dkAt dk_X11_load 40 rfl) 85 rfl ?_
        refine x_getS C lk_RX11_49 (hN.sh sh0) (hN.sr sr0_4) (dkAt dk_X11_load 41 rfl) 88 rfl ?_
        obtain ⟨v9, M10, h17, hf⟩ := cl_inv hf
        refine x_cVv C (c_X3_forget hN h17) mw_X3_forget ln_RX11_137 mi_X3_forget (hN.rc (ci := 3) sh35 rc3) (ro_of (by decide) (by decide) (by decide) (by decide)) rfl rfl (Nat.le_of_ble_eq_true rfl) (dkAt dk_X11_load 42 rfl) 91 rfl 0 0 rfl rfl ?_
        refine x_aload_n C rfl rfl (dkAt dk_X11_load 43 rfl) 92 rfl ?_
        refine x_getS C lk_RX11_69 (hN.sh sh0) (hN.sr sr0_7) (dkAt dk_X11_load 44 rfl) 95 rfl ?_
        obtain ⟨v11, M12, h16, hf⟩ := cl_inv hf
        refine x_cVv C (c_X5_forget hN h16) mw_X5_forget ln_RX11_140 mi_X5_forget (hN.rc (ci := 5) sh96 rc5) (ro_of (by decide) (by decide) (by decide) (by decide)) rfl rfl (Nat.le_of_ble_eq_true rfl) (dkAt dk_X11_load 45 rfl) 98 rfl 0 0 rfl rfl ?_
        refine x_aload_n C rfl rfl (dkAt dk_X11_load 46 rfl) 99 rfl ?_
        refine x_getS C lk_RX11_38 (hN.sh sh0) (hN.sr sr0_2) (dkAt dk_X11_load 47 rfl) 102 rfl ?_
        obtain ⟨v13, M14, h15, hf⟩ := cl_inv hf
        refine x_cVi C (c_X0_countActions hN sh3 h15) mw_X0_countActions ln_RX11_141 mi_X0_countActions (hN.rc (ci := 0) sh3 rc0) (ro_of (by decide) (by decide) (by decide) (by decide)) rfl rfl (Nat.le_of_ble_eq_true rfl) (dkAt dk_X11_load 48 rfl) 105 rfl 0 0 rfl rfl ?_
        exact t_iret C E hf (by decide) (by decide) (dkAt dk_X11_load 49 rfl)
      · exact t_throw C E (n9 := 2) hf (by decide) (by decide) ⟨by decide, by decide, by decide, by decide⟩ (Nat.le_of_ble_eq_true rfl) (by decide) th_RX11_122_126.1 th_RX11_122_126.2.1 (hN.st (i := 22) rfl) th_RX11_122_126.2.2.1 th_RX11_122_126.2.2.2 (dkAt dk_X11_load 23 rfl) (dkAt dk_X11_load 24 rfl) (dkAt dk_X11_load 25 rfl) (dkAt dk_X11_load 26 rfl) (dkAt dk_X11_load 27 rfl)
    · exact t_throw C E (n9 := 1) hf (by decide) (by decide) ⟨by decide, by decide, by decide, by decide⟩ (Nat.le_of_ble_eq_true rfl) (by decide) th_RX11_112_116.1 th_RX11_112_116.2.1 (hN.st (i := 11) rfl) th_RX11_112_116.2.2.1 th_RX11_112_116.2.2.2 (dkAt dk_X11_load 7 rfl) (dkAt dk_X11_load 8 rfl) (dkAt dk_X11_load 9 rfl) (dkAt dk_X11_load 10 rfl) (dkAt dk_X11_load 11 rfl)
def f_X11_parseError (Z : Nat) (M : Mem)  : Option (Int32 × Mem) :=
  bd (gI M (21) 2) (fun v1 => some (v1, M))
set_option maxRecDepth 100000 in
theorem c_X11_parseError {Γ : WC} (hN : HN Γ) {Z : Nat} {M : Mem}  {rM : Int32 × Mem}  (hf : f_X11_parseError Z M  = some rM) : Ct Γ yX11_parseError cX11_parseError 1 (some .int) (rmL 0 0 0) [.ref (wad Γ 0)] M (some (.int rM.1)) rM.2 := by
  refine mkN hN.1 (own := RX11) rfl (by decide) (Nat.le_of_ble_eq_true rfl) (fun X C E => ?_)
  change G Γ X M 0 0 [some (.ref (wad Γ 0))] [] 0
  unfold f_X11_parseError at hf
  refine x_aload_n C rfl rfl (dkAt dk_X11_parseError 0 rfl) 1 rfl ?_
  refine x_getS C lk_RX11_34 (hN.sh sh0) (hN.sr sr0_1) (dkAt dk_X11_parseError 1 rfl) 4 rfl ?_
  refine x_getI C lk_RX11_145 (hN.sh sh21) (dkAt dk_X11_parseError 2 rfl) 7 rfl hf (fun v1 hf => ?_)
  exact x_iret C E hf (by decide) (by decide) (dkAt dk_X11_parseError 3 rfl)
def f_X11_errorPosition (Z : Nat) (M : Mem)  : Option (Int32 × Mem) :=
  bd (gI M (21) 3) (fun v1 => some (v1, M))
set_option maxRecDepth 100000 in
theorem c_X11_errorPosition {Γ : WC} (hN : HN Γ) {Z : Nat} {M : Mem}  {rM : Int32 × Mem}  (hf : f_X11_errorPosition Z M  = some rM) : Ct Γ yX11_errorPosition cX11_errorPosition 1 (some .int) (rmL 0 0 0) [.ref (wad Γ 0)] M (some (.int rM.1)) rM.2 := by
  refine mkN hN.1 (own := RX11) rfl (by decide) (Nat.le_of_ble_eq_true rfl) (fun X C E => ?_)
  change G Γ X M 0 0 [some (.ref (wad Γ 0))] [] 0
  unfold f_X11_errorPosition at hf
  refine x_aload_n C rfl rfl (dkAt dk_X11_errorPosition 0 rfl) 1 rfl ?_
  refine x_getS C lk_RX11_34 (hN.sh sh0) (hN.sr sr0_1) (dkAt dk_X11_errorPosition 1 rfl) 4 rfl ?_
  refine x_getI C lk_RX11_148 (hN.sh sh21) (dkAt dk_X11_errorPosition 2 rfl) 7 rfl hf (fun v1 hf => ?_)
  exact x_iret C E hf (by decide) (by decide) (dkAt dk_X11_errorPosition 3 rfl)
def f_X11_states (Z : Nat) (M : Mem)  : Option (Int32 × Mem) :=
  bd (gI M (3) 0) (fun v1 => some (v1, M))
set_option maxRecDepth 100000 in
theorem c_X11_states {Γ : WC} (hN : HN Γ) {Z : Nat} {M : Mem}  {rM : Int32 × Mem}  (hf : f_X11_states Z M  = some rM) : Ct Γ yX11_states cX11_states 1 (some .int) (rmL 0 0 0) [.ref (wad Γ 0)] M (some (.int rM.1)) rM.2 := by
  refine mkN hN.1 (own := RX11) rfl (by decide) (Nat.le_of_ble_eq_true rfl) (fun X C E => ?_)
  change G Γ X M 0 0 [some (.ref (wad Γ 0))] [] 0
  unfold f_X11_states at hf
  refine x_aload_n C rfl rfl (dkAt dk_X11_states 0 rfl) 1 rfl ?_
  refine x_getS C lk_RX11_38 (hN.sh sh0) (hN.sr sr0_2) (dkAt dk_X11_states 1 rfl) 4 rfl ?_
  refine x_getI C lk_RX11_151 (hN.sh sh3) (dkAt dk_X11_states 2 rfl) 7 rfl hf (fun v1 hf => ?_)
  exact x_iret C E hf (by decide) (by decide) (dkAt dk_X11_states 3 rfl)
def f_X11_budgets (Z : Nat) (M : Mem)  : Option (Int32 × Mem) :=
  bd (gI M (3) 1) (fun v1 => some (v1, M))
set_option maxRecDepth 100000 in
theorem c_X11_budgets {Γ : WC} (hN : HN Γ) {Z : Nat} {M : Mem}  {rM : Int32 × Mem}  (hf : f_X11_budgets Z M  = some rM) : Ct Γ yX11_budgets cX11_budgets 1 (some .int) (rmL 0 0 0) [.ref (wad Γ 0)] M (some (.int rM.1)) rM.2 := by
  refine mkN hN.1 (own := RX11) rfl (by decide) (Nat.le_of_ble_eq_true rfl) (fun X C E => ?_)
  change G Γ X M 0 0 [some (.ref (wad Γ 0))] [] 0
  unfold f_X11_budgets at hf
  refine x_aload_n C rfl rfl (dkAt dk_X11_budgets 0 rfl) 1 rfl ?_
  refine x_getS C lk_RX11_38 (hN.sh sh0) (hN.sr sr0_2) (dkAt dk_X11_budgets 1 rfl) 4 rfl ?_
  refine x_getI C lk_RX11_154 (hN.sh sh3) (dkAt dk_X11_budgets 2 rfl) 7 rfl hf (fun v1 hf => ?_)
  exact x_iret C E hf (by decide) (by decide) (dkAt dk_X11_budgets 3 rfl)
def f_X11_horizon (Z : Nat) (M : Mem)  : Option (Int32 × Mem) :=
  bd (gI M (10) 4) (fun v1 => some (v1, M))
set_option maxRecDepth 100000 in
theorem c_X11_horizon {Γ : WC} (hN : HN Γ) {Z : Nat} {M : Mem}  {rM : Int32 × Mem}  (hf : f_X11_horizon Z M  = some rM) : Ct Γ yX11_horizon cX11_horizon 1 (some .int) (rmL 0 0 0) [.ref (wad Γ 0)] M (some (.int rM.1)) rM.2 := by
  refine mkN hN.1 (own := RX11) rfl (by decide) (Nat.le_of_ble_eq_true rfl) (fun X C E => ?_)
  change G Γ X M 0 0 [some (.ref (wad Γ 0))] [] 0
  unfold f_X11_horizon at hf
  refine x_aload_n C rfl rfl (dkAt dk_X11_horizon 0 rfl) 1 rfl ?_
  refine x_getS C lk_RX11_42 (hN.sh sh0) (hN.sr sr0_3) (dkAt dk_X11_horizon 1 rfl) 4 rfl ?_
  refine x_getI C lk_RX11_157 (hN.sh sh10) (dkAt dk_X11_horizon 2 rfl) 7 rfl hf (fun v1 hf => ?_)
  exact x_iret C E hf (by decide) (by decide) (dkAt dk_X11_horizon 3 rfl)
def f_X11_needChain (Z : Nat) (M : Mem)  : Option (Except Nat Unit × Mem) :=
  bd (gI M (3) 0) (fun v1 => (if v1 = 0 then some (.error 0, M) else some (.ok (), M)))
set_option maxRecDepth 100000 in
theorem c_X11_needChain {Γ : WC} (hN : HN Γ) {Z : Nat} {M : Mem}  {rM : Except Nat Unit × Mem}  (hf : f_X11_needChain Z M  = some rM) : CtT Γ yX11_needChain cX11_needChain 1 none (rmL 6 1 6) [.ref (wad Γ 0)] M (fun _ => none) rM := by
  refine mkT hN.1 (own := RX11) rfl (by decide) (Nat.le_of_ble_eq_true rfl) (fun X C E => ?_)
  change G Γ X M 0 0 [some (.ref (wad Γ 0))] [] 0
  unfold f_X11_needChain at hf
  refine x_aload_n C rfl rfl (dkAt dk_X11_needChain 0 rfl) 1 rfl ?_
  refine x_getS C lk_RX11_38 (hN.sh sh0) (hN.sr sr0_2) (dkAt dk_X11_needChain 1 rfl) 4 rfl ?_
  refine x_getI C lk_RX11_151 (hN.sh sh3) (dkAt dk_X11_needChain 2 rfl) 7 rfl hf (fun v1 hf => ?_)
  refine x_if_ne C 21 (dkAt dk_X11_needChain 3 rfl) 10 rfl (by decide) hf (fun hf => ?_) (fun hf => ?_)
  · exact t_vret C E hf (by decide) (by decide) (dkAt dk_X11_needChain 9 rfl)
  · exact t_throwW C E (n9 := 0) hf (by decide) (by decide) ⟨by decide, by decide, by decide, by decide⟩ (Nat.le_of_ble_eq_true rfl) (by decide) th_RX11_334_338.1 th_RX11_334_338.2.1 (hN.st (i := 23) rfl) th_RX11_334_338.2.2.1 th_RX11_334_338.2.2.2 (dkAt dk_X11_needChain 4 rfl) (dkAt dk_X11_needChain 5 rfl) (dkAt dk_X11_needChain 6 rfl) (dkAt dk_X11_needChain 7 rfl) (dkAt dk_X11_needChain 8 rfl)
def f_X11_start (Z : Nat) (M : Mem)  : Option (Except Nat Int32 × Mem) :=
  clT (f_X11_needChain Z M) (fun v1 M2 => bd (gI M2 (10) 3) (fun v3 => some (.ok v3, M2))) pr
set_option maxRecDepth 100000 in
theorem c_X11_start {Γ : WC} (hN : HN Γ) {Z : Nat} {M : Mem}  {rM : Except Nat Int32 × Mem}  (hf : f_X11_start Z M  = some rM) : CtT Γ yX11_start cX11_start 1 (some .int) (rmL 7 1 6) [.ref (wad Γ 0)] M (fun v => some (.int v)) rM := by
  refine mkT hN.1 (own := RX11) rfl (by decide) (Nat.le_of_ble_eq_true rfl) (fun X C E => ?_)
  change G Γ X M 0 0 [some (.ref (wad Γ 0))] [] 0
  unfold f_X11_start at hf
  refine x_aload_n C rfl rfl (dkAt dk_X11_start 0 rfl) 1 rfl ?_
  refine t_cVv C E hf (fun r hr => c_X11_needChain hN hr) mw_X11_needChain ln_RX11_160 mi_X11_needChain (hN.rc (ci := 11) sh0 rc11) (ro_of (by decide) (by decide) (by decide) (by decide)) rfl rfl (Nat.le_of_ble_eq_true rfl) (dkAt dk_X11_start 1 rfl) 4 rfl 1 6 rfl rfl (by decide) (by decide) (fun v1 M2 hf => ?_)
  refine x_aload_n C rfl rfl (dkAt dk_X11_start 2 rfl) 5 rfl ?_
  refine x_getS C lk_RX11_42 (hN.sh sh0) (hN.sr sr0_3) (dkAt dk_X11_start 3 rfl) 8 rfl ?_
  refine x_getI C lk_RX11_163 (hN.sh sh10) (dkAt dk_X11_start 4 rfl) 11 rfl hf (fun v3 hf => ?_)
  exact t_iret C E hf (by decide) (by decide) (dkAt dk_X11_start 5 rfl)
def f_X11_needState (Z : Nat) (M : Mem) (p0 : Int32) : Option (Except Nat Unit × Mem) :=
  clT (f_X11_needChain Z M) (fun v1 M2 => jn (fun (t3 : Unit) => some (.error 1, M2)) (fun j4 => (if p0 < 0 then j4 () else bd (gI M2 (3) 0) (fun v5 => (if p0 < v5 then some (.ok (), M2) else j4 ()))))) pr
set_option maxRecDepth 100000 in
theorem c_X11_needState {Γ : WC} (hN : HN Γ) {Z : Nat} {M : Mem} {p0 : Int32} {rM : Except Nat Unit × Mem}  (hf : f_X11_needState Z M p0 = some rM) : CtT Γ yX11_needState cX11_needState 2 none (rmL 7 2 12) [.ref (wad Γ 0), .int p0] M (fun _ => none) rM := by
  refine mkT hN.1 (own := RX11) rfl (by decide) (Nat.le_of_ble_eq_true rfl) (fun X C E => ?_)
  change G Γ X M 0 0 [some (.ref (wad Γ 0)), some (.int p0)] [] 0
  unfold f_X11_needState at hf
  refine x_aload_n C rfl rfl (dkAt dk_X11_needState 0 rfl) 1 rfl ?_
  refine t_cVv C E hf (fun r hr => c_X11_needChain hN hr) mw_X11_needChain ln_RX11_160 mi_X11_needChain (hN.rc (ci := 11) sh0 rc11) (ro_of (by decide) (by decide) (by decide) (by decide)) rfl rfl (Nat.le_of_ble_eq_true rfl) (dkAt dk_X11_needState 1 rfl) 4 rfl 1 6 rfl rfl (by decide) (by decide) (fun v1 M2 hf => ?_)
  refine x_iload_n C rfl rfl (dkAt dk_X11_needState 2 rfl) 5 rfl ?_
  refine x_join hf (fun t3 => G Γ X M2 1 6 [] [] 19) (fun t3 hf => ?_) (fun j4 hj4 hf => ?_)
  · exact t_throwW C E (n9 := 1) hf (by decide) (by decide) ⟨by decide, by decide, by decide, by decide⟩ (Nat.le_of_ble_eq_true rfl) (by decide) th_RX11_112_116.1 th_RX11_112_116.2.1 (hN.st (i := 24) rfl) th_RX11_112_116.2.2.1 th_RX11_112_116.2.2.2 (dkAt dk_X11_needState 9 rfl) (dkAt dk_X11_needState 10 rfl) (dkAt dk_X11_needState 11 rfl) (dkAt dk_X11_needState 12 rfl) (dkAt dk_X11_needState 13 rfl)
  · refine x_if_lt C 19 (dkAt dk_X11_needState 3 rfl) 8 rfl (by decide) hf (fun hf => ?_) (fun hf => ?_)
    · exact G.weak (L := []) trivial (hj4 _ hf)
    · refine x_iload_n C rfl rfl (dkAt dk_X11_needState 4 rfl) 9 rfl ?_
      refine x_aload_n C rfl rfl (dkAt dk_X11_needState 5 rfl) 10 rfl ?_
      refine x_getS C lk_RX11_38 (hN.sh sh0) (hN.sr sr0_2) (dkAt dk_X11_needState 6 rfl) 13 rfl ?_
      refine x_getI C lk_RX11_151 (hN.sh sh3) (dkAt dk_X11_needState 7 rfl) 16 rfl hf (fun v5 hf => ?_)
      refine x_icmp_lt C 30 (dkAt dk_X11_needState 8 rfl) 19 rfl (by decide) hf (fun hf => ?_) (fun hf => ?_)
      · exact t_vret C E hf (by decide) (by decide) (dkAt dk_X11_needState 14 rfl)
      · exact G.weak (L := []) trivial (hj4 _ hf)
def f_X11_actions (Z : Nat) (M : Mem) (p0 : Int32) : Option (Except Nat Int32 × Mem) :=
  clT (f_X11_needState Z M p0) (fun v1 M2 => rdI M2 4 6 p0 (fun v3 => some (.ok v3, M2))) pr
set_option maxRecDepth 100000 in
theorem c_X11_actions {Γ : WC} (hN : HN Γ) {Z : Nat} {M : Mem} {p0 : Int32} {rM : Except Nat Int32 × Mem}  (hf : f_X11_actions Z M p0 = some rM) : CtT Γ yX11_actions cX11_actions 2 (some .int) (rmL 8 2 12) [.ref (wad Γ 0), .int p0] M (fun v => some (.int v)) rM := by
  refine mkT hN.1 (own := RX11) rfl (by decide) (Nat.le_of_ble_eq_true rfl) (fun X C E => ?_)
  change G Γ X M 0 0 [some (.ref (wad Γ 0)), some (.int p0)] [] 0
  unfold f_X11_actions at hf
  refine x_aload_n C rfl rfl (dkAt dk_X11_actions 0 rfl) 1 rfl ?_
  refine x_iload_n C rfl rfl (dkAt dk_X11_actions 1 rfl) 2 rfl ?_
  refine t_cVv C E hf (fun r hr => c_X11_needState hN hr) mw_X11_needState ln_RX11_166 mi_X11_needState (hN.rc (ci := 11) sh0 rc11) (ro_of (by decide) (by decide) (by decide) (by decide)) rfl rfl (Nat.le_of_ble_eq_true rfl) (dkAt dk_X11_actions 2 rfl) 5 rfl 2 12 rfl rfl (by decide) (by decide) (fun v1 M2 hf => ?_)
  refine x_aload_n C rfl rfl (dkAt dk_X11_actions 3 rfl) 6 rfl ?_
  refine x_getS C lk_RX11_38 (hN.sh sh0) (hN.sr sr0_2) (dkAt dk_X11_actions 4 rfl) 9 rfl ?_
  refine x_getS C lk_RX11_169 (hN.sh sh3) (hN.sr sr3_2) (dkAt dk_X11_actions 5 rfl) 12 rfl ?_
  refine x_iload_n C rfl rfl (dkAt dk_X11_actions 6 rfl) 13 rfl ?_
  refine x_iald C (hN.sh sh4) (dkAt dk_X11_actions 7 rfl) 14 rfl hf (fun v3 hf => ?_)
  exact t_iret C E hf (by decide) (by decide) (dkAt dk_X11_actions 8 rfl)
def f_X11_needAction (Z : Nat) (M : Mem) (p0 : Int32) (p1 : Int32) : Option (Except Nat Unit × Mem) :=
  clT (f_X11_needState Z M p0) (fun v1 M2 => jn (fun (t3 : Unit) => some (.error 1, M2)) (fun j4 => (if p1 < 0 then j4 () else rdI M2 4 6 p0 (fun v5 => (if p1 < v5 then some (.ok (), M2) else j4 ()))))) pr
set_option maxRecDepth 100000 in
theorem c_X11_needAction {Γ : WC} (hN : HN Γ) {Z : Nat} {M : Mem} {p0 : Int32} {p1 : Int32} {rM : Except Nat Unit × Mem}  (hf : f_X11_needAction Z M p0 p1 = some rM) : CtT Γ yX11_needAction cX11_needAction 3 none (rmL 8 3 18) [.ref (wad Γ 0), .int p0, .int p1] M (fun _ => none) rM := by
  refine mkT hN.1 (own := RX11) rfl (by decide) (Nat.le_of_ble_eq_true rfl) (fun X C E => ?_)
  change G Γ X M 0 0 [some (.ref (wad Γ 0)), some (.int p0), some (.int p1)] [] 0
  unfold f_X11_needAction at hf
  refine x_aload_n C rfl rfl (dkAt dk_X11_needAction 0 rfl) 1 rfl ?_
  refine x_iload_n C rfl rfl (dkAt dk_X11_needAction 1 rfl) 2 rfl ?_
  refine t_cVv C E hf (fun r hr => c_X11_needState hN hr) mw_X11_needState ln_RX11_166 mi_X11_needState (hN.rc (ci := 11) sh0 rc11) (ro_of (by decide) (by decide) (by decide) (by decide)) rfl rfl (Nat.le_of_ble_eq_true rfl) (dkAt dk_X11_needAction 2 rfl) 5 rfl 2 12 rfl rfl (by decide) (by decide) (fun v1 M2 hf => ?_)
  refine x_iload_n C rfl rfl (dkAt dk_X11_needAction 3 rfl) 6 rfl ?_
  refine x_join hf (fun t3 => G Γ X M2 2 12 [] [] 22) (fun t3 hf => ?_) (fun j4 hj4 hf => ?_)
  · exact t_throwW C E (n9 := 1) hf (by decide) (by decide) ⟨by decide, by decide, by decide, by decide⟩ (Nat.le_of_ble_eq_true rfl) (by decide) th_RX11_112_116.1 th_RX11_112_116.2.1 (hN.st (i := 25) rfl) th_RX11_112_116.2.2.1 th_RX11_112_116.2.2.2 (dkAt dk_X11_needAction 12 rfl) (dkAt dk_X11_needAction 13 rfl) (dkAt dk_X11_needAction 14 rfl) (dkAt dk_X11_needAction 15 rfl) (dkAt dk_X11_needAction 16 rfl)
  · refine x_if_lt C 22 (dkAt dk_X11_needAction 4 rfl) 9 rfl (by decide) hf (fun hf => ?_) (fun hf => ?_)
    · exact G.weak (L := []) trivial (hj4 _ hf)
    · refine x_iload_n C rfl rfl (dkAt dk_X11_needAction 5 rfl) 10 rfl ?_
      refine x_aload_n C rfl rfl (dkAt dk_X11_needAction 6 rfl) 11 rfl ?_
      refine x_getS C lk_RX11_38 (hN.sh sh0) (hN.sr sr0_2) (dkAt dk_X11_needAction 7 rfl) 14 rfl ?_
      refine x_getS C lk_RX11_169 (hN.sh sh3) (hN.sr sr3_2) (dkAt dk_X11_needAction 8 rfl) 17 rfl ?_
      refine x_iload_n C rfl rfl (dkAt dk_X11_needAction 9 rfl) 18 rfl ?_
      refine x_iald C (hN.sh sh4) (dkAt dk_X11_needAction 10 rfl) 19 rfl hf (fun v5 hf => ?_)
      refine x_icmp_lt C 33 (dkAt dk_X11_needAction 11 rfl) 22 rfl (by decide) hf (fun hf => ?_) (fun hf => ?_)
      · exact t_vret C E hf (by decide) (by decide) (dkAt dk_X11_needAction 17 rfl)
      · exact G.weak (L := []) trivial (hj4 _ hf)
def f_X11_gain (Z : Nat) (M : Mem) (p0 : Int32) (p1 : Int32) : Option (Except Nat Int32 × Mem) :=
  clT (f_X11_needAction Z M p0 p1) (fun v1 M2 => cl (f_X11_rowOf Z M2 p0 p1) (fun v3 M4 => rdI M4 5 18 v3 (fun v5 => some (.ok v5, M4)))) pr
set_option maxRecDepth 100000 in
theorem c_X11_gain {Γ : WC} (hN : HN Γ) {Z : Nat} {M : Mem} {p0 : Int32} {p1 : Int32} {rM : Except Nat Int32 × Mem}  (hf : f_X11_gain Z M p0 p1 = some rM) : CtT Γ yX11_gain cX11_gain 3 (some .int) (rmL 9 3 18) [.ref (wad Γ 0), .int p0, .int p1] M (fun v => some (.int v)) rM := by
  refine mkT hN.1 (own := RX11) rfl (by decide) (Nat.le_of_ble_eq_true rfl) (fun X C E => ?_)
  change G Γ X M 0 0 [some (.ref (wad Γ 0)), some (.int p0), some (.int p1)] [] 0
  unfold f_X11_gain at hf
  refine x_aload_n C rfl rfl (dkAt dk_X11_gain 0 rfl) 1 rfl ?_
  refine x_iload_n C rfl rfl (dkAt dk_X11_gain 1 rfl) 2 rfl ?_
  refine x_iload_n C rfl rfl (dkAt dk_X11_gain 2 rfl) 3 rfl ?_
  refine t_cVv C E hf (fun r hr => c_X11_needAction hN hr) mw_X11_needAction ln_RX11_172 mi_X11_needAction (hN.rc (ci := 11) sh0 rc11) (ro_of (by decide) (by decide) (by decide) (by decide)) rfl rfl (Nat.le_of_ble_eq_true rfl) (dkAt dk_X11_gain 3 rfl) 6 rfl 3 18 rfl rfl (by decide) (by decide) (fun v1 M2 hf => ?_)
  refine x_aload_n C rfl rfl (dkAt dk_X11_gain 4 rfl) 7 rfl ?_
  refine x_getS C lk_RX11_38 (hN.sh sh0) (hN.sr sr0_2) (dkAt dk_X11_gain 5 rfl) 10 rfl ?_
  refine x_getS C lk_RX11_176 (hN.sh sh3) (hN.sr sr3_3) (dkAt dk_X11_gain 6 rfl) 13 rfl ?_
  refine x_iload_n C rfl rfl (dkAt dk_X11_gain 7 rfl) 14 rfl ?_
  refine x_iload_n C rfl rfl (dkAt dk_X11_gain 8 rfl) 15 rfl ?_
  obtain ⟨v3, M4, h6, hf⟩ := cl_inv hf
  refine x_cSi C (c_X11_rowOf hN h6) mw_X11_rowOf ln_RX11_179 ms_X11_rowOf (ro_of (by decide) (by decide) (by decide) (by decide)) rfl rfl (Nat.le_of_ble_eq_true rfl) (dkAt dk_X11_gain 9 rfl) 18 rfl 3 18 rfl rfl ?_
  refine x_iald C (hN.sh sh5) (dkAt dk_X11_gain 10 rfl) 19 rfl hf (fun v5 hf => ?_)
  exact t_iret C E hf (by decide) (by decide) (dkAt dk_X11_gain 11 rfl)
def f_X11_needBudget (Z : Nat) (M : Mem) (p0 : Int32) : Option (Except Nat Unit × Mem) :=
  clT (f_X11_needChain Z M) (fun v1 M2 => jn (fun (t3 : Unit) => some (.error 1, M2)) (fun j4 => (if p0 < 0 then j4 () else bd (gI M2 (3) 1) (fun v5 => (if p0 < v5 then some (.ok (), M2) else j4 ()))))) pr
set_option maxRecDepth 100000 in
theorem c_X11_needBudget {Γ : WC} (hN : HN Γ) {Z : Nat} {M : Mem} {p0 : Int32} {rM : Except Nat Unit × Mem}  (hf : f_X11_needBudget Z M p0 = some rM) : CtT Γ yX11_needBudget cX11_needBudget 2 none (rmL 7 2 12) [.ref (wad Γ 0), .int p0] M (fun _ => none) rM := by
  refine mkT hN.1 (own := RX11) rfl (by decide) (Nat.le_of_ble_eq_true rfl) (fun X C E => ?_)
  change G Γ X M 0 0 [some (.ref (wad Γ 0)), some (.int p0)] [] 0
  unfold f_X11_needBudget at hf
  refine x_aload_n C rfl rfl (dkAt dk_X11_needBudget 0 rfl) 1 rfl ?_
  refine t_cVv C E hf (fun r hr => c_X11_needChain hN hr) mw_X11_needChain ln_RX11_160 mi_X11_needChain (hN.rc (ci := 11) sh0 rc11) (ro_of (by decide) (by decide) (by decide) (by decide)) rfl rfl (Nat.le_of_ble_eq_true rfl) (dkAt dk_X11_needBudget 1 rfl) 4 rfl 1 6 rfl rfl (by decide) (by decide) (fun v1 M2 hf => ?_)
  refine x_iload_n C rfl rfl (dkAt dk_X11_needBudget 2 rfl) 5 rfl ?_
  refine x_join hf (fun t3 => G Γ X M2 1 6 [] [] 19) (fun t3 hf => ?_) (fun j4 hj4 hf => ?_)
  · exact t_throwW C E (n9 := 1) hf (by decide) (by decide) ⟨by decide, by decide, by decide, by decide⟩ (Nat.le_of_ble_eq_true rfl) (by decide) th_RX11_112_116.1 th_RX11_112_116.2.1 (hN.st (i := 26) rfl) th_RX11_112_116.2.2.1 th_RX11_112_116.2.2.2 (dkAt dk_X11_needBudget 9 rfl) (dkAt dk_X11_needBudget 10 rfl) (dkAt dk_X11_needBudget 11 rfl) (dkAt dk_X11_needBudget 12 rfl) (dkAt dk_X11_needBudget 13 rfl)
  · refine x_if_lt C 19 (dkAt dk_X11_needBudget 3 rfl) 8 rfl (by decide) hf (fun hf => ?_) (fun hf => ?_)
    · exact G.weak (L := []) trivial (hj4 _ hf)
    · refine x_iload_n C rfl rfl (dkAt dk_X11_needBudget 4 rfl) 9 rfl ?_
      refine x_aload_n C rfl rfl (dkAt dk_X11_needBudget 5 rfl) 10 rfl ?_
      refine x_getS C lk_RX11_38 (hN.sh sh0) (hN.sr sr0_2) (dkAt dk_X11_needBudget 6 rfl) 13 rfl ?_
      refine x_getI C lk_RX11_154 (hN.sh sh3) (dkAt dk_X11_needBudget 7 rfl) 16 rfl hf (fun v5 hf => ?_)
      refine x_icmp_lt C 30 (dkAt dk_X11_needBudget 8 rfl) 19 rfl (by decide) hf (fun hf => ?_) (fun hf => ?_)
      · exact t_vret C E hf (by decide) (by decide) (dkAt dk_X11_needBudget 14 rfl)
      · exact G.weak (L := []) trivial (hj4 _ hf)
def f_X11_uses (Z : Nat) (M : Mem) (p0 : Int32) (p1 : Int32) (p2 : Int32) : Option (Except Nat Int32 × Mem) :=
  clT (f_X11_needAction Z M p0 p1) (fun v1 M2 => clT (f_X11_needBudget Z M2 p2) (fun v3 M4 => cl (f_X11_rowOf Z M4 p0 p1) (fun v5 M6 => cl (f_X0_amountOf Z M6 (3) v5 p2) (fun v7 M8 => some (.ok v7, M8)))) pr) pr
set_option maxRecDepth 100000 in
theorem c_X11_uses {Γ : WC} (hN : HN Γ) {Z : Nat} {M : Mem} {p0 : Int32} {p1 : Int32} {p2 : Int32} {rM : Except Nat Int32 × Mem}  (hf : f_X11_uses Z M p0 p1 p2 = some rM) : CtT Γ yX11_uses cX11_uses 4 (some .int) (rmL 9 5 30) [.ref (wad Γ 0), .int p0, .int p1, .int p2] M (fun v => some (.int v)) rM := by
  refine mkT hN.1 (own := RX11) rfl (by decide) (Nat.le_of_ble_eq_true rfl) (fun X C E => ?_)
  change G Γ X M 0 0 [some (.ref (wad Γ 0)), some (.int p0), some (.int p1), some (.int p2)] [] 0
  unfold f_X11_uses at hf
  refine x_aload_n C rfl rfl (dkAt dk_X11_uses 0 rfl) 1 rfl ?_
  refine x_iload_n C rfl rfl (dkAt dk_X11_uses 1 rfl) 2 rfl ?_
  refine x_iload_n C rfl rfl (dkAt dk_X11_uses 2 rfl) 3 rfl ?_
  refine t_cVv C E hf (fun r hr => c_X11_needAction hN hr) mw_X11_needAction ln_RX11_172 mi_X11_needAction (hN.rc (ci := 11) sh0 rc11) (ro_of (by decide) (by decide) (by decide) (by decide)) rfl rfl (Nat.le_of_ble_eq_true rfl) (dkAt dk_X11_uses 3 rfl) 6 rfl 3 18 rfl rfl (by decide) (by decide) (fun v1 M2 hf => ?_)
  refine x_aload_n C rfl rfl (dkAt dk_X11_uses 4 rfl) 7 rfl ?_
  refine x_iload_n C rfl rfl (dkAt dk_X11_uses 5 rfl) 8 rfl ?_
  refine t_cVv C E hf (fun r hr => c_X11_needBudget hN hr) mw_X11_needBudget ln_RX11_183 mi_X11_needBudget (hN.rc (ci := 11) sh0 rc11) (ro_of (by decide) (by decide) (by decide) (by decide)) rfl rfl (Nat.le_of_ble_eq_true rfl) (dkAt dk_X11_uses 6 rfl) 11 rfl 5 30 rfl rfl (by decide) (by decide) (fun v3 M4 hf => ?_)
  refine x_aload_n C rfl rfl (dkAt dk_X11_uses 7 rfl) 12 rfl ?_
  refine x_getS C lk_RX11_38 (hN.sh sh0) (hN.sr sr0_2) (dkAt dk_X11_uses 8 rfl) 15 rfl ?_
  refine x_iload_n C rfl rfl (dkAt dk_X11_uses 9 rfl) 16 rfl ?_
  refine x_iload_n C rfl rfl (dkAt dk_X11_uses 10 rfl) 17 rfl ?_
  obtain ⟨v5, M6, h10, hf⟩ := cl_inv hf
  refine x_cSi C (c_X11_rowOf hN h10) mw_X11_rowOf ln_RX11_179 ms_X11_rowOf (ro_of (by decide) (by decide) (by decide) (by decide)) rfl rfl (Nat.le_of_ble_eq_true rfl) (dkAt dk_X11_uses 11 rfl) 20 rfl 5 30 rfl rfl ?_
  refine x_iload_n C rfl rfl (dkAt dk_X11_uses 12 rfl) 21 rfl ?_
  obtain ⟨v7, M8, h9, hf⟩ := cl_inv hf
  refine x_cVi C (c_X0_amountOf hN sh3 h9) mw_X0_amountOf ln_RX11_186 mi_X0_amountOf (hN.rc (ci := 0) sh3 rc0) (ro_of (by decide) (by decide) (by decide) (by decide)) rfl rfl (Nat.le_of_ble_eq_true rfl) (dkAt dk_X11_uses 13 rfl) 24 rfl 5 30 rfl rfl ?_
  exact t_iret C E hf (by decide) (by decide) (dkAt dk_X11_uses 14 rfl)
def f_X11_percent (Z : Nat) (M : Mem) (p0 : Int32) (p1 : Int32) (p2 : Int32) : Option (Except Nat Int32 × Mem) :=
  clT (f_X11_needAction Z M p0 p1) (fun v1 M2 => clT (f_X11_needState Z M2 p2) (fun v3 M4 => cl (f_X11_rowOf Z M4 p0 p1) (fun v5 M6 => cl (f_X0_percentTo Z M6 (3) v5 p2) (fun v7 M8 => some (.ok v7, M8)))) pr) pr
set_option maxRecDepth 100000 in
theorem c_X11_percent {Γ : WC} (hN : HN Γ) {Z : Nat} {M : Mem} {p0 : Int32} {p1 : Int32} {p2 : Int32} {rM : Except Nat Int32 × Mem}  (hf : f_X11_percent Z M p0 p1 p2 = some rM) : CtT Γ yX11_percent cX11_percent 4 (some .int) (rmL 9 5 30) [.ref (wad Γ 0), .int p0, .int p1, .int p2] M (fun v => some (.int v)) rM := by
  refine mkT hN.1 (own := RX11) rfl (by decide) (Nat.le_of_ble_eq_true rfl) (fun X C E => ?_)
  change G Γ X M 0 0 [some (.ref (wad Γ 0)), some (.int p0), some (.int p1), some (.int p2)] [] 0
  unfold f_X11_percent at hf
  refine x_aload_n C rfl rfl (dkAt dk_X11_percent 0 rfl) 1 rfl ?_
  refine x_iload_n C rfl rfl (dkAt dk_X11_percent 1 rfl) 2 rfl ?_
  refine x_iload_n C rfl rfl (dkAt dk_X11_percent 2 rfl) 3 rfl ?_
  refine t_cVv C E hf (fun r hr => c_X11_needAction hN hr) mw_X11_needAction ln_RX11_172 mi_X11_needAction (hN.rc (ci := 11) sh0 rc11) (ro_of (by decide) (by decide) (by decide) (by decide)) rfl rfl (Nat.le_of_ble_eq_true rfl) (dkAt dk_X11_percent 3 rfl) 6 rfl 3 18 rfl rfl (by decide) (by decide) (fun v1 M2 hf => ?_)
  refine x_aload_n C rfl rfl (dkAt dk_X11_percent 4 rfl) 7 rfl ?_
  refine x_iload_n C rfl rfl (dkAt dk_X11_percent 5 rfl) 8 rfl ?_
  refine t_cVv C E hf (fun r hr => c_X11_needState hN hr) mw_X11_needState ln_RX11_166 mi_X11_needState (hN.rc (ci := 11) sh0 rc11) (ro_of (by decide) (by decide) (by decide) (by decide)) rfl rfl (Nat.le_of_ble_eq_true rfl) (dkAt dk_X11_percent 6 rfl) 11 rfl 5 30 rfl rfl (by decide) (by decide) (fun v3 M4 hf => ?_)
  refine x_aload_n C rfl rfl (dkAt dk_X11_percent 7 rfl) 12 rfl ?_
  refine x_getS C lk_RX11_38 (hN.sh sh0) (hN.sr sr0_2) (dkAt dk_X11_percent 8 rfl) 15 rfl ?_
  refine x_iload_n C rfl rfl (dkAt dk_X11_percent 9 rfl) 16 rfl ?_
  refine x_iload_n C rfl rfl (dkAt dk_X11_percent 10 rfl) 17 rfl ?_
  obtain ⟨v5, M6, h10, hf⟩ := cl_inv hf
  refine x_cSi C (c_X11_rowOf hN h10) mw_X11_rowOf ln_RX11_179 ms_X11_rowOf (ro_of (by decide) (by decide) (by decide) (by decide)) rfl rfl (Nat.le_of_ble_eq_true rfl) (dkAt dk_X11_percent 11 rfl) 20 rfl 5 30 rfl rfl ?_
  refine x_iload_n C rfl rfl (dkAt dk_X11_percent 12 rfl) 21 rfl ?_
  obtain ⟨v7, M8, h9, hf⟩ := cl_inv hf
  refine x_cVi C (c_X0_percentTo hN sh3 h9) mw_X0_percentTo ln_RX11_189 mi_X0_percentTo (hN.rc (ci := 0) sh3 rc0) (ro_of (by decide) (by decide) (by decide) (by decide)) rfl rfl (Nat.le_of_ble_eq_true rfl) (dkAt dk_X11_percent 13 rfl) 24 rfl 5 30 rfl rfl ?_
  exact t_iret C E hf (by decide) (by decide) (dkAt dk_X11_percent 14 rfl)
def f_X11_weight (Z : Nat) (M : Mem) (p0 : Int32) (p1 : Int32) : Option (Except Nat Int32 × Mem) :=
  clT (f_X11_needAction Z M p0 p1) (fun v1 M2 => cl (f_X11_rowOf Z M2 p0 p1) (fun v3 M4 => rdI M4 11 18 v3 (fun v5 => some (.ok v5, M4)))) pr
set_option maxRecDepth 100000 in
theorem c_X11_weight {Γ : WC} (hN : HN Γ) {Z : Nat} {M : Mem} {p0 : Int32} {p1 : Int32} {rM : Except Nat Int32 × Mem}  (hf : f_X11_weight Z M p0 p1 = some rM) : CtT Γ yX11_weight cX11_weight 3 (some .int) (rmL 9 3 18) [.ref (wad Γ 0), .int p0, .int p1] M (fun v => some (.int v)) rM := by
  refine mkT hN.1 (own := RX11) rfl (by decide) (Nat.le_of_ble_eq_true rfl) (fun X C E => ?_)
  change G Γ X M 0 0 [some (.ref (wad Γ 0)), some (.int p0), some (.int p1)] [] 0
  unfold f_X11_weight at hf
  refine x_aload_n C rfl rfl (dkAt dk_X11_weight 0 rfl) 1 rfl ?_
  refine x_iload_n C rfl rfl (dkAt dk_X11_weight 1 rfl) 2 rfl ?_
  refine x_iload_n C rfl rfl (dkAt dk_X11_weight 2 rfl) 3 rfl ?_
  refine t_cVv C E hf (fun r hr => c_X11_needAction hN hr) mw_X11_needAction ln_RX11_172 mi_X11_needAction (hN.rc (ci := 11) sh0 rc11) (ro_of (by decide) (by decide) (by decide) (by decide)) rfl rfl (Nat.le_of_ble_eq_true rfl) (dkAt dk_X11_weight 3 rfl) 6 rfl 3 18 rfl rfl (by decide) (by decide) (fun v1 M2 hf => ?_)
  refine x_aload_n C rfl rfl (dkAt dk_X11_weight 4 rfl) 7 rfl ?_
  refine x_getS C lk_RX11_42 (hN.sh sh0) (hN.sr sr0_3) (dkAt dk_X11_weight 5 rfl) 10 rfl ?_
  refine x_getS C lk_RX11_192 (hN.sh sh10) (hN.sr sr10_0) (dkAt dk_X11_weight 6 rfl) 13 rfl ?_
  refine x_iload_n C rfl rfl (dkAt dk_X11_weight 7 rfl) 14 rfl ?_
  refine x_iload_n C rfl rfl (dkAt dk_X11_weight 8 rfl) 15 rfl ?_
  obtain ⟨v3, M4, h6, hf⟩ := cl_inv hf
  refine x_cSi C (c_X11_rowOf hN h6) mw_X11_rowOf ln_RX11_179 ms_X11_rowOf (ro_of (by decide) (by decide) (by decide) (by decide)) rfl rfl (Nat.le_of_ble_eq_true rfl) (dkAt dk_X11_weight 9 rfl) 18 rfl 3 18 rfl rfl ?_
  refine x_iald C (hN.sh sh11) (dkAt dk_X11_weight 10 rfl) 19 rfl hf (fun v5 hf => ?_)
  exact t_iret C E hf (by decide) (by decide) (dkAt dk_X11_weight 11 rfl)
def f_X11_isPermitted (Z : Nat) (M : Mem) (p0 : Int32) (p1 : Int32) : Option (Except Nat Int32 × Mem) :=
  clT (f_X11_needAction Z M p0 p1) (fun v1 M2 => cl (f_X7_permits Z M2 (10) p0 p1) (fun v3 M4 => (if v3 &&& 1 = v3 then some (.ok v3, M4) else none))) pr
set_option maxRecDepth 100000 in
theorem c_X11_isPermitted {Γ : WC} (hN : HN Γ) {Z : Nat} {M : Mem} {p0 : Int32} {p1 : Int32} {rM : Except Nat Int32 × Mem}  (hf : f_X11_isPermitted Z M p0 p1 = some rM) : CtT Γ yX11_isPermitted cX11_isPermitted 3 (some .boolean) (rmL 9 3 18) [.ref (wad Γ 0), .int p0, .int p1] M (fun v => some (.int v)) rM := by
  refine mkT hN.1 (own := RX11) rfl (by decide) (Nat.le_of_ble_eq_true rfl) (fun X C E => ?_)
  change G Γ X M 0 0 [some (.ref (wad Γ 0)), some (.int p0), some (.int p1)] [] 0
  unfold f_X11_isPermitted at hf
  refine x_aload_n C rfl rfl (dkAt dk_X11_isPermitted 0 rfl) 1 rfl ?_
  refine x_iload_n C rfl rfl (dkAt dk_X11_isPermitted 1 rfl) 2 rfl ?_
  refine x_iload_n C rfl rfl (dkAt dk_X11_isPermitted 2 rfl) 3 rfl ?_
  refine t_cVv C E hf (fun r hr => c_X11_needAction hN hr) mw_X11_needAction ln_RX11_172 mi_X11_needAction (hN.rc (ci := 11) sh0 rc11) (ro_of (by decide) (by decide) (by decide) (by decide)) rfl rfl (Nat.le_of_ble_eq_true rfl) (dkAt dk_X11_isPermitted 3 rfl) 6 rfl 3 18 rfl rfl (by decide) (by decide) (fun v1 M2 hf => ?_)
  refine x_aload_n C rfl rfl (dkAt dk_X11_isPermitted 4 rfl) 7 rfl ?_
  refine x_getS C lk_RX11_42 (hN.sh sh0) (hN.sr sr0_3) (dkAt dk_X11_isPermitted 5 rfl) 10 rfl ?_
  refine x_iload_n C rfl rfl (dkAt dk_X11_isPermitted 6 rfl) 11 rfl ?_
  refine x_iload_n C rfl rfl (dkAt dk_X11_isPermitted 7 rfl) 12 rfl ?_
  obtain ⟨v3, M4, h5, hf⟩ := cl_inv hf
  refine x_cVi C (c_X7_permits hN sh10 h5) mw_X7_permits ln_RX11_195 mi_X7_permits (hN.rc (ci := 7) sh10 rc7) (ro_of (by decide) (by decide) (by decide) (by decide)) rfl rfl (Nat.le_of_ble_eq_true rfl) (dkAt dk_X11_isPermitted 8 rfl) 15 rfl 3 18 rfl rfl ?_
  obtain ⟨hz, hf⟩ := if_some hf
  exact t_zret C E hz hf (by decide) (by decide) (dkAt dk_X11_isPermitted 9 rfl)
def f_X11_limit (Z : Nat) (M : Mem) (p0 : Int32) : Option (Except Nat Int32 × Mem) :=
  clT (f_X11_needBudget Z M p0) (fun v1 M2 => rdI M2 13 3 p0 (fun v3 => some (.ok v3, M2))) pr
set_option maxRecDepth 100000 in
theorem c_X11_limit {Γ : WC} (hN : HN Γ) {Z : Nat} {M : Mem} {p0 : Int32} {rM : Except Nat Int32 × Mem}  (hf : f_X11_limit Z M p0 = some rM) : CtT Γ yX11_limit cX11_limit 2 (some .int) (rmL 8 2 12) [.ref (wad Γ 0), .int p0] M (fun v => some (.int v)) rM := by
  refine mkT hN.1 (own := RX11) rfl (by decide) (Nat.le_of_ble_eq_true rfl) (fun X C E => ?_)
  change G Γ X M 0 0 [some (.ref (wad Γ 0)), some (.int p0)] [] 0
  unfold f_X11_limit at hf
  refine x_aload_n C rfl rfl (dkAt dk_X11_limit 0 rfl) 1 rfl ?_
  refine x_iload_n C rfl rfl (dkAt dk_X11_limit 1 rfl) 2 rfl ?_
  refine t_cVv C E hf (fun r hr => c_X11_needBudget hN hr) mw_X11_needBudget ln_RX11_183 mi_X11_needBudget (hN.rc (ci := 11) sh0 rc11) (ro_of (by decide) (by decide) (by decide) (by decide)) rfl rfl (Nat.le_of_ble_eq_true rfl) (dkAt dk_X11_limit 2 rfl) 5 rfl 2 12 rfl rfl (by decide) (by decide) (fun v1 M2 hf => ?_)
  refine x_aload_n C rfl rfl (dkAt dk_X11_limit 3 rfl) 6 rfl ?_
  refine x_getS C lk_RX11_42 (hN.sh sh0) (hN.sr sr0_3) (dkAt dk_X11_limit 4 rfl) 9 rfl ?_
  refine x_getS C lk_RX11_199 (hN.sh sh10) (hN.sr sr10_2) (dkAt dk_X11_limit 5 rfl) 12 rfl ?_
  refine x_iload_n C rfl rfl (dkAt dk_X11_limit 6 rfl) 13 rfl ?_
  refine x_iald C (hN.sh sh13) (dkAt dk_X11_limit 7 rfl) 14 rfl hf (fun v3 hf => ?_)
  exact t_iret C E hf (by decide) (by decide) (dkAt dk_X11_limit 8 rfl)
def f_X11_needRange (Z : Nat) (M : Mem) (p0 : Int32) (p1 : Int32) (p2 : Int32) : Option (Except Nat Unit × Mem) :=
  jn (fun (t1 : Unit) => some (.error 2, M)) (fun j2 => (if p0 < p1 then j2 () else (if p0 ≤ p2 then some (.ok (), M) else j2 ())))
set_option maxRecDepth 100000 in
theorem c_X11_needRange {Γ : WC} (hN : HN Γ) {Z : Nat} {M : Mem} {p0 : Int32} {p1 : Int32} {p2 : Int32} {rM : Except Nat Unit × Mem}  (hf : f_X11_needRange Z M p0 p1 p2 = some rM) : CtT Γ yX11_needRange cX11_needRange 3 none (rmL 6 1 6) [.int p0, .int p1, .int p2] M (fun _ => none) rM := by
  refine mkT hN.1 (own := RX11) rfl (by decide) (Nat.le_of_ble_eq_true rfl) (fun X C E => ?_)
  change G Γ X M 0 0 [some (.int p0), some (.int p1), some (.int p2)] [] 0
  unfold f_X11_needRange at hf
  refine x_iload_n C rfl rfl (dkAt dk_X11_needRange 0 rfl) 1 rfl ?_
  refine x_iload_n C rfl rfl (dkAt dk_X11_needRange 1 rfl) 2 rfl ?_
  refine x_join hf (fun t1 => G Γ X M 0 0 [] [] 10) (fun t1 hf => ?_) (fun j2 hj2 hf => ?_)
  · exact t_throwW C E (n9 := 2) hf (by decide) (by decide) ⟨by decide, by decide, by decide, by decide⟩ (Nat.le_of_ble_eq_true rfl) (by decide) th_RX11_122_126.1 th_RX11_122_126.2.1 (hN.st (i := 27) rfl) th_RX11_122_126.2.2.1 th_RX11_122_126.2.2.2 (dkAt dk_X11_needRange 6 rfl) (dkAt dk_X11_needRange 7 rfl) (dkAt dk_X11_needRange 8 rfl) (dkAt dk_X11_needRange 9 rfl) (dkAt dk_X11_needRange 10 rfl)
  · refine x_icmp_lt C 10 (dkAt dk_X11_needRange 2 rfl) 5 rfl (by decide) hf (fun hf => ?_) (fun hf => ?_)
    · exact G.weak (L := []) trivial (hj2 _ hf)
    · refine x_iload_n C rfl rfl (dkAt dk_X11_needRange 3 rfl) 6 rfl ?_
      refine x_iload_n C rfl rfl (dkAt dk_X11_needRange 4 rfl) 7 rfl ?_
      refine x_icmp_le C 21 (dkAt dk_X11_needRange 5 rfl) 10 rfl (by decide) hf (fun hf => ?_) (fun hf => ?_)
      · exact t_vret C E hf (by decide) (by decide) (dkAt dk_X11_needRange 11 rfl)
      · exact G.weak (L := []) trivial (hj2 _ hf)
def f_X11_needTime (Z : Nat) (M : Mem) (p0 : Int32) : Option (Except Nat Unit × Mem) :=
  clT (f_X11_needChain Z M) (fun v1 M2 => bd (gI M2 (10) 4) (fun v3 => clT (f_X11_needRange Z M2 p0 (0 : Int32) v3) (fun v4 M5 => some (.ok (), M5)) pr)) pr
set_option maxRecDepth 100000 in
theorem c_X11_needTime {Γ : WC} (hN : HN Γ) {Z : Nat} {M : Mem} {p0 : Int32} {rM : Except Nat Unit × Mem}  (hf : f_X11_needTime Z M p0 = some rM) : CtT Γ yX11_needTime cX11_needTime 2 none (rmL 7 2 12) [.ref (wad Γ 0), .int p0] M (fun _ => none) rM := by
  refine mkT hN.1 (own := RX11) rfl (by decide) (Nat.le_of_ble_eq_true rfl) (fun X C E => ?_)
  change G Γ X M 0 0 [some (.ref (wad Γ 0)), some (.int p0)] [] 0
  unfold f_X11_needTime at hf
  refine x_aload_n C rfl rfl (dkAt dk_X11_needTime 0 rfl) 1 rfl ?_
  refine t_cVv C E hf (fun r hr => c_X11_needChain hN hr) mw_X11_needChain ln_RX11_160 mi_X11_needChain (hN.rc (ci := 11) sh0 rc11) (ro_of (by decide) (by decide) (by decide) (by decide)) rfl rfl (Nat.le_of_ble_eq_true rfl) (dkAt dk_X11_needTime 1 rfl) 4 rfl 1 6 rfl rfl (by decide) (by decide) (fun v1 M2 hf => ?_)
  refine x_iload_n C rfl rfl (dkAt dk_X11_needTime 2 rfl) 5 rfl ?_
  refine x_iconst C (v := (0 : Int32)) (by decide) (dkAt dk_X11_needTime 3 rfl) 6 rfl ?_
  refine x_aload_n C rfl rfl (dkAt dk_X11_needTime 4 rfl) 7 rfl ?_
  refine x_getS C lk_RX11_42 (hN.sh sh0) (hN.sr sr0_3) (dkAt dk_X11_needTime 5 rfl) 10 rfl ?_
  refine x_getI C lk_RX11_157 (hN.sh sh10) (dkAt dk_X11_needTime 6 rfl) 13 rfl hf (fun v3 hf => ?_)
  refine t_cSv C E hf (fun r hr => c_X11_needRange hN hr) mw_X11_needRange ln_RX11_212 ms_X11_needRange (ro_of (by decide) (by decide) (by decide) (by decide)) rfl rfl (Nat.le_of_ble_eq_true rfl) (dkAt dk_X11_needTime 7 rfl) 16 rfl 2 12 rfl rfl (by decide) (by decide) (fun v4 M5 hf => ?_)
  exact t_vret C E hf (by decide) (by decide) (dkAt dk_X11_needTime 8 rfl)
def f_X11_followRules (Z : Nat) (M : Mem)  : Option (Unit × Mem) :=
  bd (gI M (10) 3) (fun v1 => bd (gI M (10) 4) (fun v2 => cl (f_X1_follow Z M (11) v1 v2) (fun v3 M4 => some ((), M4))))
set_option maxRecDepth 100000 in
theorem c_X11_followRules {Γ : WC} (hN : HN Γ) {Z : Nat} {M : Mem}  {rM : Unit × Mem}  (hf : f_X11_followRules Z M  = some rM) : Ct Γ yX11_followRules cX11_followRules 1 none (rmL 4 0 0) [.ref (wad Γ 0)] M none rM.2 := by
  refine mkN hN.1 (own := RX11) rfl (by decide) (Nat.le_of_ble_eq_true rfl) (fun X C E => ?_)
  change G Γ X M 0 0 [some (.ref (wad Γ 0))] [] 0
  unfold f_X11_followRules at hf
  refine x_aload_n C rfl rfl (dkAt dk_X11_followRules 0 rfl) 1 rfl ?_
  refine x_getS C lk_RX11_53 (hN.sh sh0) (hN.sr sr0_5) (dkAt dk_X11_followRules 1 rfl) 4 rfl ?_
  refine x_aload_n C rfl rfl (dkAt dk_X11_followRules 2 rfl) 5 rfl ?_
  refine x_getS C lk_RX11_42 (hN.sh sh0) (hN.sr sr0_3) (dkAt dk_X11_followRules 3 rfl) 8 rfl ?_
  refine x_getS C lk_RX11_192 (hN.sh sh10) (hN.sr sr10_0) (dkAt dk_X11_followRules 4 rfl) 11 rfl ?_
  refine x_aload_n C rfl rfl (dkAt dk_X11_followRules 5 rfl) 12 rfl ?_
  refine x_getS C lk_RX11_42 (hN.sh sh0) (hN.sr sr0_3) (dkAt dk_X11_followRules 6 rfl) 15 rfl ?_
  refine x_getI C lk_RX11_163 (hN.sh sh10) (dkAt dk_X11_followRules 7 rfl) 18 rfl hf (fun v1 hf => ?_)
  refine x_aload_n C rfl rfl (dkAt dk_X11_followRules 8 rfl) 19 rfl ?_
  refine x_getS C lk_RX11_42 (hN.sh sh0) (hN.sr sr0_3) (dkAt dk_X11_followRules 9 rfl) 22 rfl ?_
  refine x_getI C lk_RX11_157 (hN.sh sh10) (dkAt dk_X11_followRules 10 rfl) 25 rfl hf (fun v2 hf => ?_)
  obtain ⟨v3, M4, h5, hf⟩ := cl_inv hf
  refine x_cVv C (c_X1_follow hN sh11 h5) mw_X1_follow ln_RX11_408 mi_X1_follow (hN.rc (ci := 1) sh16 rc1) (ro_of (by decide) (by decide) (by decide) (by decide)) rfl rfl (Nat.le_of_ble_eq_true rfl) (dkAt dk_X11_followRules 11 rfl) 28 rfl 0 0 rfl rfl ?_
  exact x_vret C E hf (by decide) (by decide) (dkAt dk_X11_followRules 12 rfl)
def f_X11_reach_L13 (Z : Nat) (p0 : Int32) : Nat → Int32 → Int32 → Mem → Option (Except Nat Int32 × Mem)
  | 0, _, _, _ => none
  | n + 1, x5, x6, M7 => bd (gI M7 (3) 0) (fun v8 => (if v8 ≤ x6 then some (.ok x5, M7) else cl (f_X1_at Z M7 x6 p0) (fun v9 M10 => (if v9 ≤ (0 : Int64) then f_X11_reach_L13 Z p0 n x5 (x6 + (1 : Int32)) M10 else f_X11_reach_L13 Z p0 n (x5 ||| ((1 : Int32) <<< (x6 &&& 31))) (x6 + (1 : Int32)) M10))))
def f_X11_reach (Z : Nat) (M : Mem) (p0 : Int32) : Option (Except Nat Int32 × Mem) :=
  clT (f_X11_needTime Z M p0) (fun v1 M2 => cl (f_X11_followRules Z M2) (fun v3 M4 => f_X11_reach_L13 Z p0 Z (0 : Int32) (0 : Int32) M4)) pr
set_option maxRecDepth 100000 in
theorem l_X11_reach_L13 {Γ : WC} {X : MX} (hN : HN Γ) (C : CX Γ X cX11_reach 4 RX11 (some .int) (rmL 8 2 12)) {rM : Except Nat Int32 × Mem} (E : EndT Γ X (fun v => some (.int v)) rM 2 12) {Z : Nat} {p0 : Int32} : ∀ (n : Nat) (x5 : Int32) (x6 : Int32) (M7 : Mem), f_X11_reach_L13 Z p0 n x5 x6 M7 = some rM → G Γ X M7 2 12 [some (.ref (wad Γ 0)), some (.int p0), some (.int x5), some (.int x6)] [] 13 := by
  intro n
  induction n with
  | zero =>
    intro x5 x6 M7 hf
    have hf0 : (none : Option _) = some rM := hf
    cases hf0
  | succ n ih =>
    intro x5 x6 M7 hf
    rw [f_X11_reach_L13] at hf
    refine x_iload_n C rfl rfl (dkAt dk_X11_reach 9 rfl) 14 rfl ?_
    refine x_aload_n C rfl rfl (dkAt dk_X11_reach 10 rfl) 15 rfl ?_
    refine x_getS C lk_RX11_38 (hN.sh sh0) (hN.sr sr0_2) (dkAt dk_X11_reach 11 rfl) 18 rfl ?_
    refine x_getI C lk_RX11_151 (hN.sh sh3) (dkAt dk_X11_reach 12 rfl) 21 rfl hf (fun v8 hf => ?_)
    refine x_icmp_ge C 50 (dkAt dk_X11_reach 13 rfl) 24 rfl (by decide) hf (fun hf => ?_) (fun hf => ?_)
    · refine x_iload_n C rfl rfl (dkAt dk_X11_reach 30 rfl) 51 rfl ?_
      exact t_iret C E hf (by decide) (by decide) (dkAt dk_X11_reach 31 rfl)
    · refine x_aload_n C rfl rfl (dkAt dk_X11_reach 14 rfl) 25 rfl ?_
      refine x_getS C lk_RX11_53 (hN.sh sh0) (hN.sr sr0_5) (dkAt dk_X11_reach 15 rfl) 28 rfl ?_
      refine x_iload_n C rfl rfl (dkAt dk_X11_reach 16 rfl) 29 rfl ?_
      refine x_iload_n C rfl rfl (dkAt dk_X11_reach 17 rfl) 30 rfl ?_
      obtain ⟨v9, M10, h11, hf⟩ := cl_inv hf
      refine x_cVl C (c_X1_at hN h11) mw_X1_at ln_RX11_208 mi_X1_at (hN.rc (ci := 1) sh16 rc1) (ro_of (by decide) (by decide) (by decide) (by decide)) rfl rfl (Nat.le_of_ble_eq_true rfl) (dkAt dk_X11_reach 18 rfl) 33 rfl 2 12 rfl rfl ?_
      refine x_lconst C (v := (0 : Int64)) (by decide) (dkAt dk_X11_reach 19 rfl) 34 rfl ?_
      refine x_lcmp_le C 44 (dkAt dk_X11_reach 20 rfl) 38 rfl (dkAt dk_X11_reach 21 rfl) (by decide) hf (fun hf => ?_) (fun hf => ?_)
      · refine x_iinc C (v := (x6 + (1 : Int32))) (L1 := [some (.ref (wad Γ 0)), some (.int p0), some (.int x5), some (.int (x6 + (1 : Int32)))]) (dkAt dk_X11_reach 28 rfl) 47 rfl rfl rfl (by decide) rfl ?_
        refine x_goto C 13 (dkAt dk_X11_reach 29 rfl) (by decide) ?_
        exact G.weak (L := [some (.ref (wad Γ 0)), some (.int p0), some (.int x5), some (.int (x6 + (1 : Int32)))]) ⟨rfl, rfl, rfl, rfl, trivial⟩ (ih _ _ _ hf)
      · refine x_iload_n C rfl rfl (dkAt dk_X11_reach 22 rfl) 39 rfl ?_
        refine x_iconst C (v := (1 : Int32)) (by decide) (dkAt dk_X11_reach 23 rfl) 40 rfl ?_
        refine x_iload_n C rfl rfl (dkAt dk_X11_reach 24 rfl) 41 rfl ?_
        refine x_ishl C (dkAt dk_X11_reach 25 rfl) 42 rfl ?_
        refine x_ior C (dkAt dk_X11_reach 26 rfl) 43 rfl ?_
        refine x_istore_n C (L1 := [some (.ref (wad Γ 0)), some (.int p0), some (.int (x5 ||| ((1 : Int32) <<< (x6 &&& 31)))), some (.int x6)]) (dkAt dk_X11_reach 27 rfl) 44 rfl rfl (by decide) rfl ?_
        refine x_iinc C (v := (x6 + (1 : Int32))) (L1 := [some (.ref (wad Γ 0)), some (.int p0), some (.int (x5 ||| ((1 : Int32) <<< (x6 &&& 31)))), some (.int (x6 + (1 : Int32)))]) (dkAt dk_X11_reach 28 rfl) 47 rfl rfl rfl (by decide) rfl ?_
        refine x_goto C 13 (dkAt dk_X11_reach 29 rfl) (by decide) ?_
        exact G.weak (L := [some (.ref (wad Γ 0)), some (.int p0), some (.int (x5 ||| ((1 : Int32) <<< (x6 &&& 31)))), some (.int (x6 + (1 : Int32)))]) ⟨rfl, rfl, rfl, rfl, trivial⟩ (ih _ _ _ hf)
set_option maxRecDepth 100000 in
theorem c_X11_reach {Γ : WC} (hN : HN Γ) {Z : Nat} {M : Mem} {p0 : Int32} {rM : Except Nat Int32 × Mem}  (hf : f_X11_reach Z M p0 = some rM) : CtT Γ yX11_reach cX11_reach 4 (some .int) (rmL 8 2 12) [.ref (wad Γ 0), .int p0] M (fun v => some (.int v)) rM := by
  refine mkT hN.1 (own := RX11) rfl (by decide) (Nat.le_of_ble_eq_true rfl) (fun X C E => ?_)
  change G Γ X M 0 0 [some (.ref (wad Γ 0)), some (.int p0)] [] 0
  unfold f_X11_reach at hf
  refine x_aload_n C rfl rfl (dkAt dk_X11_reach 0 rfl) 1 rfl ?_
  refine x_iload_n C rfl rfl (dkAt dk_X11_reach 1 rfl) 2 rfl ?_
  refine t_cVv C E hf (fun r hr => c_X11_needTime hN hr) mw_X11_needTime ln_RX11_202 mi_X11_needTime (hN.rc (ci := 11) sh0 rc11) (ro_of (by decide) (by decide) (by decide) (by decide)) rfl rfl (Nat.le_of_ble_eq_true rfl) (dkAt dk_X11_reach 2 rfl) 5 rfl 2 12 rfl rfl (by decide) (by decide) (fun v1 M2 hf => ?_)
  refine x_aload_n C rfl rfl (dkAt dk_X11_reach 3 rfl) 6 rfl ?_
  obtain ⟨v3, M4, h12, hf⟩ := cl_inv hf
  refine x_cVv C (c_X11_followRules hN h12) mw_X11_followRules ln_RX11_205 mi_X11_followRules (hN.rc (ci := 11) sh0 rc11) (ro_of (by decide) (by decide) (by decide) (by decide)) rfl rfl (Nat.le_of_ble_eq_true rfl) (dkAt dk_X11_reach 4 rfl) 9 rfl 2 12 rfl rfl ?_
  refine x_iconst C (v := (0 : Int32)) (by decide) (dkAt dk_X11_reach 5 rfl) 10 rfl ?_
  refine x_istore_n C (L1 := [some (.ref (wad Γ 0)), some (.int p0), some (.int (0 : Int32))]) (dkAt dk_X11_reach 6 rfl) 11 rfl rfl (by decide) rfl ?_
  refine x_iconst C (v := (0 : Int32)) (by decide) (dkAt dk_X11_reach 7 rfl) 12 rfl ?_
  refine x_istore_n C (L1 := [some (.ref (wad Γ 0)), some (.int p0), some (.int (0 : Int32)), some (.int (0 : Int32))]) (dkAt dk_X11_reach 8 rfl) 13 rfl rfl (by decide) rfl ?_
  refine G.weak (L := [some (.ref (wad Γ 0)), some (.int p0), some (.int (0 : Int32)), some (.int (0 : Int32))]) ⟨rfl, rfl, rfl, rfl, trivial⟩ ?_
  refine l_X11_reach_L13 hN C E Z _ _ _ hf
def f_X11_isClosed_L26 (Z : Nat) (p0 : Int32) : Nat → Int32 → Mem → Option (Except Nat Int32 × Mem)
  | 0, _, _ => none
  | n + 1, x8, M9 => bd (gI M9 (3) 0) (fun v10 => (if v10 ≤ x8 then some (.ok (1 : Int32), M9) else jn (fun (t11 : Mem) => f_X11_isClosed_L26 Z p0 n (x8 + (1 : Int32)) t11) (fun j12 => (if ((p0 >>> (x8 &&& 31)) &&& (1 : Int32)) = (1 : Int32) then cl (f_X1_nextStates Z M9 x8) (fun v13 M14 => (if (v13 &&& (p0 ^^^ (-1 : Int32))) = 0 then j12 M14 else some (.ok (0 : Int32), M14))) else j12 M9))))
def f_X11_isClosed (Z : Nat) (M : Mem) (p0 : Int32) : Option (Except Nat Int32 × Mem) :=
  clT (f_X11_needChain Z M) (fun v1 M2 => bd (gI M2 (3) 0) (fun v3 => clT (f_X11_needRange Z M2 p0 (1 : Int32) (((1 : Int32) <<< (v3 &&& 31)) - (1 : Int32))) (fun v4 M5 => cl (f_X11_followRules Z M5) (fun v6 M7 => f_X11_isClosed_L26 Z p0 Z (0 : Int32) M7)) pr)) pr
set_option maxRecDepth 100000 in
theorem l_X11_isClosed_L26 {Γ : WC} {X : MX} (hN : HN Γ) (C : CX Γ X cX11_isClosed 3 RX11 (some .boolean) (rmL 7 2 12)) {rM : Except Nat Int32 × Mem} (E : EndT Γ X (fun v => some (.int v)) rM 2 12) {Z : Nat} {p0 : Int32} : ∀ (n : Nat) (x8 : Int32) (M9 : Mem), f_X11_isClosed_L26 Z p0 n x8 M9 = some rM → G Γ X M9 2 12 [some (.ref (wad Γ 0)), some (.int p0), some (.int x8)] [] 26 := by
  intro n
  induction n with
  | zero =>
    intro x8 M9 hf
    have hf0 : (none : Option _) = some rM := hf
    cases hf0
  | succ n ih =>
    intro x8 M9 hf
    rw [f_X11_isClosed_L26] at hf
    refine x_iload_n C rfl rfl (dkAt dk_X11_isClosed 16 rfl) 27 rfl ?_
    refine x_aload_n C rfl rfl (dkAt dk_X11_isClosed 17 rfl) 28 rfl ?_
    refine x_getS C lk_RX11_38 (hN.sh sh0) (hN.sr sr0_2) (dkAt dk_X11_isClosed 18 rfl) 31 rfl ?_
    refine x_getI C lk_RX11_151 (hN.sh sh3) (dkAt dk_X11_isClosed 19 rfl) 34 rfl hf (fun v10 hf => ?_)
    refine x_icmp_ge C 69 (dkAt dk_X11_isClosed 20 rfl) 37 rfl (by decide) hf (fun hf => ?_) (fun hf => ?_)
    · refine x_iconst C (v := (1 : Int32)) (by decide) (dkAt dk_X11_isClosed 41 rfl) 70 rfl ?_
      exact t_zret C E (by decide) hf (by decide) (by decide) (dkAt dk_X11_isClosed 42 rfl)
    · refine x_iload_n C rfl rfl (dkAt dk_X11_isClosed 21 rfl) 38 rfl ?_
      refine x_iload_n C rfl rfl (dkAt dk_X11_isClosed 22 rfl) 39 rfl ?_
      refine x_ishr C (dkAt dk_X11_isClosed 23 rfl) 40 rfl ?_
      refine x_iconst C (v := (1 : Int32)) (by decide) (dkAt dk_X11_isClosed 24 rfl) 41 rfl ?_
      refine x_iand C (dkAt dk_X11_isClosed 25 rfl) 42 rfl ?_
      refine x_iconst C (v := (1 : Int32)) (by decide) (dkAt dk_X11_isClosed 26 rfl) 43 rfl ?_
      refine x_join hf (fun t11 => G Γ X t11 2 12 [some (.ref (wad Γ 0)), some (.int p0), some (.int x8)] [] 63) (fun t11 hf => ?_) (fun j12 hj12 hf => ?_)
      · refine x_iinc C (v := (x8 + (1 : Int32))) (L1 := [some (.ref (wad Γ 0)), some (.int p0), some (.int (x8 + (1 : Int32)))]) (dkAt dk_X11_isClosed 39 rfl) 66 rfl rfl rfl (by decide) rfl ?_
        refine x_goto C 26 (dkAt dk_X11_isClosed 40 rfl) (by decide) ?_
        exact G.weak (L := [some (.ref (wad Γ 0)), some (.int p0), some (.int (x8 + (1 : Int32)))]) ⟨rfl, rfl, rfl, trivial⟩ (ih _ _ hf)
      · refine x_icmp_ne C 63 (dkAt dk_X11_isClosed 27 rfl) 46 rfl (by decide) hf (fun hf => ?_) (fun hf => ?_)
        · exact G.weak (L := [some (.ref (wad Γ 0)), some (.int p0), some (.int x8)]) ⟨rfl, rfl, rfl, trivial⟩ (hj12 _ hf)
        · refine x_aload_n C rfl rfl (dkAt dk_X11_isClosed 28 rfl) 47 rfl ?_
          refine x_getS C lk_RX11_53 (hN.sh sh0) (hN.sr sr0_5) (dkAt dk_X11_isClosed 29 rfl) 50 rfl ?_
          refine x_iload_n C rfl rfl (dkAt dk_X11_isClosed 30 rfl) 51 rfl ?_
          obtain ⟨v13, M14, h15, hf⟩ := cl_inv hf
          refine x_cVi C (c_X1_nextStates hN h15) mw_X1_nextStates ln_RX11_216 mi_X1_nextStates (hN.rc (ci := 1) sh16 rc1) (ro_of (by decide) (by decide) (by decide) (by decide)) rfl rfl (Nat.le_of_ble_eq_true rfl) (dkAt dk_X11_isClosed 31 rfl) 54 rfl 2 12 rfl rfl ?_
          refine x_iload_n C rfl rfl (dkAt dk_X11_isClosed 32 rfl) 55 rfl ?_
          refine x_iconst C (v := (-1 : Int32)) (by decide) (dkAt dk_X11_isClosed 33 rfl) 56 rfl ?_
          refine x_ixor C (dkAt dk_X11_isClosed 34 rfl) 57 rfl ?_
          refine x_iand C (dkAt dk_X11_isClosed 35 rfl) 58 rfl ?_
          refine x_if_eq C 63 (dkAt dk_X11_isClosed 36 rfl) 61 rfl (by decide) hf (fun hf => ?_) (fun hf => ?_)
          · exact G.weak (L := [some (.ref (wad Γ 0)), some (.int p0), some (.int x8)]) ⟨rfl, rfl, rfl, trivial⟩ (hj12 _ hf)
          · refine x_iconst C (v := (0 : Int32)) (by decide) (dkAt dk_X11_isClosed 37 rfl) 62 rfl ?_
            exact t_zret C E (by decide) hf (by decide) (by decide) (dkAt dk_X11_isClosed 38 rfl)
set_option maxRecDepth 100000 in
theorem c_X11_isClosed {Γ : WC} (hN : HN Γ) {Z : Nat} {M : Mem} {p0 : Int32} {rM : Except Nat Int32 × Mem}  (hf : f_X11_isClosed Z M p0 = some rM) : CtT Γ yX11_isClosed cX11_isClosed 3 (some .boolean) (rmL 7 2 12) [.ref (wad Γ 0), .int p0] M (fun v => some (.int v)) rM := by
  refine mkT hN.1 (own := RX11) rfl (by decide) (Nat.le_of_ble_eq_true rfl) (fun X C E => ?_)
  change G Γ X M 0 0 [some (.ref (wad Γ 0)), some (.int p0)] [] 0
  unfold f_X11_isClosed at hf
  refine x_aload_n C rfl rfl (dkAt dk_X11_isClosed 0 rfl) 1 rfl ?_
  refine t_cVv C E hf (fun r hr => c_X11_needChain hN hr) mw_X11_needChain ln_RX11_160 mi_X11_needChain (hN.rc (ci := 11) sh0 rc11) (ro_of (by decide) (by decide) (by decide) (by decide)) rfl rfl (Nat.le_of_ble_eq_true rfl) (dkAt dk_X11_isClosed 1 rfl) 4 rfl 1 6 rfl rfl (by decide) (by decide) (fun v1 M2 hf => ?_)
  refine x_iload_n C rfl rfl (dkAt dk_X11_isClosed 2 rfl) 5 rfl ?_
  refine x_iconst C (v := (1 : Int32)) (by decide) (dkAt dk_X11_isClosed 3 rfl) 6 rfl ?_
  refine x_iconst C (v := (1 : Int32)) (by decide) (dkAt dk_X11_isClosed 4 rfl) 7 rfl ?_
  refine x_aload_n C rfl rfl (dkAt dk_X11_isClosed 5 rfl) 8 rfl ?_
  refine x_getS C lk_RX11_38 (hN.sh sh0) (hN.sr sr0_2) (dkAt dk_X11_isClosed 6 rfl) 11 rfl ?_
  refine x_getI C lk_RX11_151 (hN.sh sh3) (dkAt dk_X11_isClosed 7 rfl) 14 rfl hf (fun v3 hf => ?_)
  refine x_ishl C (dkAt dk_X11_isClosed 8 rfl) 15 rfl ?_
  refine x_iconst C (v := (1 : Int32)) (by decide) (dkAt dk_X11_isClosed 9 rfl) 16 rfl ?_
  refine x_isub C (dkAt dk_X11_isClosed 10 rfl) 17 rfl ?_
  refine t_cSv C E hf (fun r hr => c_X11_needRange hN hr) mw_X11_needRange ln_RX11_212 ms_X11_needRange (ro_of (by decide) (by decide) (by decide) (by decide)) rfl rfl (Nat.le_of_ble_eq_true rfl) (dkAt dk_X11_isClosed 11 rfl) 20 rfl 2 12 rfl rfl (by decide) (by decide) (fun v4 M5 hf => ?_)
  refine x_aload_n C rfl rfl (dkAt dk_X11_isClosed 12 rfl) 21 rfl ?_
  obtain ⟨v6, M7, h16, hf⟩ := cl_inv hf
  refine x_cVv C (c_X11_followRules hN h16) mw_X11_followRules ln_RX11_205 mi_X11_followRules (hN.rc (ci := 11) sh0 rc11) (ro_of (by decide) (by decide) (by decide) (by decide)) rfl rfl (Nat.le_of_ble_eq_true rfl) (dkAt dk_X11_isClosed 13 rfl) 24 rfl 2 12 rfl rfl ?_
  refine x_iconst C (v := (0 : Int32)) (by decide) (dkAt dk_X11_isClosed 14 rfl) 25 rfl ?_
  refine x_istore_n C (L1 := [some (.ref (wad Γ 0)), some (.int p0), some (.int (0 : Int32))]) (dkAt dk_X11_isClosed 15 rfl) 26 rfl rfl (by decide) rfl ?_
  refine G.weak (L := [some (.ref (wad Γ 0)), some (.int p0), some (.int (0 : Int32))]) ⟨rfl, rfl, rfl, trivial⟩ ?_
  refine l_X11_isClosed_L26 hN C E Z _ _ hf
def f_X11_flow (Z : Nat) (M : Mem) (p0 : Int32) (p1 : Int32) : Option (Except Nat Int64 × Mem) :=
  clT (f_X11_needState Z M p0) (fun v1 M2 => clT (f_X11_needTime Z M2 p1) (fun v3 M4 => cl (f_X11_followRules Z M4) (fun v5 M6 => cl (f_X1_at Z M6 p0 p1) (fun v7 M8 => some (.ok v7, M8)))) pr) pr
set_option maxRecDepth 100000 in
theorem c_X11_flow {Γ : WC} (hN : HN Γ) {Z : Nat} {M : Mem} {p0 : Int32} {p1 : Int32} {rM : Except Nat Int64 × Mem}  (hf : f_X11_flow Z M p0 p1 = some rM) : CtT Γ yX11_flow cX11_flow 3 (some .long) (rmL 8 4 24) [.ref (wad Γ 0), .int p0, .int p1] M (fun v => some (.long v)) rM := by
  refine mkT hN.1 (own := RX11) rfl (by decide) (Nat.le_of_ble_eq_true rfl) (fun X C E => ?_)
  change G Γ X M 0 0 [some (.ref (wad Γ 0)), some (.int p0), some (.int p1)] [] 0
  unfold f_X11_flow at hf
  refine x_aload_n C rfl rfl (dkAt dk_X11_flow 0 rfl) 1 rfl ?_
  refine x_iload_n C rfl rfl (dkAt dk_X11_flow 1 rfl) 2 rfl ?_
  refine t_cVv C E hf (fun r hr => c_X11_needState hN hr) mw_X11_needState ln_RX11_166 mi_X11_needState (hN.rc (ci := 11) sh0 rc11) (ro_of (by decide) (by decide) (by decide) (by decide)) rfl rfl (Nat.le_of_ble_eq_true rfl) (dkAt dk_X11_flow 2 rfl) 5 rfl 2 12 rfl rfl (by decide) (by decide) (fun v1 M2 hf => ?_)
  refine x_aload_n C rfl rfl (dkAt dk_X11_flow 3 rfl) 6 rfl ?_
  refine x_iload_n C rfl rfl (dkAt dk_X11_flow 4 rfl) 7 rfl ?_
  refine t_cVv C E hf (fun r hr => c_X11_needTime hN hr) mw_X11_needTime ln_RX11_202 mi_X11_needTime (hN.rc (ci := 11) sh0 rc11) (ro_of (by decide) (by decide) (by decide) (by decide)) rfl rfl (Nat.le_of_ble_eq_true rfl) (dkAt dk_X11_flow 5 rfl) 10 rfl 4 24 rfl rfl (by decide) (by decide) (fun v3 M4 hf => ?_)
  refine x_aload_n C rfl rfl (dkAt dk_X11_flow 6 rfl) 11 rfl ?_
  obtain ⟨v5, M6, h10, hf⟩ := cl_inv hf
  refine x_cVv C (c_X11_followRules hN h10) mw_X11_followRules ln_RX11_205 mi_X11_followRules (hN.rc (ci := 11) sh0 rc11) (ro_of (by decide) (by decide) (by decide) (by decide)) rfl rfl (Nat.le_of_ble_eq_true rfl) (dkAt dk_X11_flow 7 rfl) 14 rfl 4 24 rfl rfl ?_
  refine x_aload_n C rfl rfl (dkAt dk_X11_flow 8 rfl) 15 rfl ?_
  refine x_getS C lk_RX11_53 (hN.sh sh0) (hN.sr sr0_5) (dkAt dk_X11_flow 9 rfl) 18 rfl ?_
  refine x_iload_n C rfl rfl (dkAt dk_X11_flow 10 rfl) 19 rfl ?_
  refine x_iload_n C rfl rfl (dkAt dk_X11_flow 11 rfl) 20 rfl ?_
  obtain ⟨v7, M8, h9, hf⟩ := cl_inv hf
  refine x_cVl C (c_X1_at hN h9) mw_X1_at ln_RX11_208 mi_X1_at (hN.rc (ci := 1) sh16 rc1) (ro_of (by decide) (by decide) (by decide) (by decide)) rfl rfl (Nat.le_of_ble_eq_true rfl) (dkAt dk_X11_flow 12 rfl) 23 rfl 4 24 rfl rfl ?_
  exact t_lret C E hf (by decide) (by decide) (dkAt dk_X11_flow 13 rfl)
def f_X11_use (Z : Nat) (M : Mem) (p0 : Int32) (p1 : Int32) (p2 : Int32) : Option (Except Nat Int64 × Mem) :=
  clT (f_X11_needAction Z M p0 p1) (fun v1 M2 => bd (gI M2 (10) 4) (fun v3 => clT (f_X11_needRange Z M2 p2 (0 : Int32) (v3 - (1 : Int32))) (fun v4 M5 => cl (f_X11_followRules Z M5) (fun v6 M7 => cl (f_X1_at Z M7 p0 p2) (fun v8 M9 => cl (f_X11_rowOf Z M9 p0 p1) (fun v10 M11 => rdI M11 11 18 v10 (fun v12 => some (.ok (v8 * v12.toInt64), M11)))))) pr)) pr
set_option maxRecDepth 100000 in
theorem c_X11_use {Γ : WC} (hN : HN Γ) {Z : Nat} {M : Mem} {p0 : Int32} {p1 : Int32} {p2 : Int32} {rM : Except Nat Int64 × Mem}  (hf : f_X11_use Z M p0 p1 p2 = some rM) : CtT Γ yX11_use cX11_use 4 (some .long) (rmL 9 4 24) [.ref (wad Γ 0), .int p0, .int p1, .int p2] M (fun v => some (.long v)) rM := by
  refine mkT hN.1 (own := RX11) rfl (by decide) (Nat.le_of_ble_eq_true rfl) (fun X C E => ?_)
  change G Γ X M 0 0 [some (.ref (wad Γ 0)), some (.int p0), some (.int p1), some (.int p2)] [] 0
  unfold f_X11_use at hf
  refine x_aload_n C rfl rfl (dkAt dk_X11_use 0 rfl) 1 rfl ?_
  refine x_iload_n C rfl rfl (dkAt dk_X11_use 1 rfl) 2 rfl ?_
  refine x_iload_n C rfl rfl (dkAt dk_X11_use 2 rfl) 3 rfl ?_
  refine t_cVv C E hf (fun r hr => c_X11_needAction hN hr) mw_X11_needAction ln_RX11_172 mi_X11_needAction (hN.rc (ci := 11) sh0 rc11) (ro_of (by decide) (by decide) (by decide) (by decide)) rfl rfl (Nat.le_of_ble_eq_true rfl) (dkAt dk_X11_use 3 rfl) 6 rfl 3 18 rfl rfl (by decide) (by decide) (fun v1 M2 hf => ?_)
  refine x_iload_n C rfl rfl (dkAt dk_X11_use 4 rfl) 7 rfl ?_
  refine x_iconst C (v := (0 : Int32)) (by decide) (dkAt dk_X11_use 5 rfl) 8 rfl ?_
  refine x_aload_n C rfl rfl (dkAt dk_X11_use 6 rfl) 9 rfl ?_
  refine x_getS C lk_RX11_42 (hN.sh sh0) (hN.sr sr0_3) (dkAt dk_X11_use 7 rfl) 12 rfl ?_
  refine x_getI C lk_RX11_157 (hN.sh sh10) (dkAt dk_X11_use 8 rfl) 15 rfl hf (fun v3 hf => ?_)
  refine x_iconst C (v := (1 : Int32)) (by decide) (dkAt dk_X11_use 9 rfl) 16 rfl ?_
  refine x_isub C (dkAt dk_X11_use 10 rfl) 17 rfl ?_
  refine t_cSv C E hf (fun r hr => c_X11_needRange hN hr) mw_X11_needRange ln_RX11_212 ms_X11_needRange (ro_of (by decide) (by decide) (by decide) (by decide)) rfl rfl (Nat.le_of_ble_eq_true rfl) (dkAt dk_X11_use 11 rfl) 20 rfl 4 24 rfl rfl (by decide) (by decide) (fun v4 M5 hf => ?_)
  refine x_aload_n C rfl rfl (dkAt dk_X11_use 12 rfl) 21 rfl ?_
  obtain ⟨v6, M7, h15, hf⟩ := cl_inv hf
  refine x_cVv C (c_X11_followRules hN h15) mw_X11_followRules ln_RX11_205 mi_X11_followRules (hN.rc (ci := 11) sh0 rc11) (ro_of (by decide) (by decide) (by decide) (by decide)) rfl rfl (Nat.le_of_ble_eq_true rfl) (dkAt dk_X11_use 13 rfl) 24 rfl 4 24 rfl rfl ?_
  refine x_aload_n C rfl rfl (dkAt dk_X11_use 14 rfl) 25 rfl ?_
  refine x_getS C lk_RX11_53 (hN.sh sh0) (hN.sr sr0_5) (dkAt dk_X11_use 15 rfl) 28 rfl ?_
  refine x_iload_n C rfl rfl (dkAt dk_X11_use 16 rfl) 29 rfl ?_
  refine x_iload_n C rfl rfl (dkAt dk_X11_use 17 rfl) 30 rfl ?_
  obtain ⟨v8, M9, h14, hf⟩ := cl_inv hf
  refine x_cVl C (c_X1_at hN h14) mw_X1_at ln_RX11_208 mi_X1_at (hN.rc (ci := 1) sh16 rc1) (ro_of (by decide) (by decide) (by decide) (by decide)) rfl rfl (Nat.le_of_ble_eq_true rfl) (dkAt dk_X11_use 18 rfl) 33 rfl 4 24 rfl rfl ?_
  refine x_aload_n C rfl rfl (dkAt dk_X11_use 19 rfl) 34 rfl ?_
  refine x_getS C lk_RX11_42 (hN.sh sh0) (hN.sr sr0_3) (dkAt dk_X11_use 20 rfl) 37 rfl ?_
  refine x_getS C lk_RX11_192 (hN.sh sh10) (hN.sr sr10_0) (dkAt dk_X11_use 21 rfl) 40 rfl ?_
  refine x_iload_n C rfl rfl (dkAt dk_X11_use 22 rfl) 41 rfl ?_
  refine x_iload_n C rfl rfl (dkAt dk_X11_use 23 rfl) 42 rfl ?_
  obtain ⟨v10, M11, h13, hf⟩ := cl_inv hf
  refine x_cSi C (c_X11_rowOf hN h13) mw_X11_rowOf ln_RX11_179 ms_X11_rowOf (ro_of (by decide) (by decide) (by decide) (by decide)) rfl rfl (Nat.le_of_ble_eq_true rfl) (dkAt dk_X11_use 24 rfl) 45 rfl 4 24 rfl rfl ?_
  refine x_iald C (hN.sh sh11) (dkAt dk_X11_use 25 rfl) 46 rfl hf (fun v12 hf => ?_)
  refine x_i2l C (dkAt dk_X11_use 26 rfl) 47 rfl ?_
  refine x_lmul C (dkAt dk_X11_use 27 rfl) 48 rfl ?_
  exact t_lret C E hf (by decide) (by decide) (dkAt dk_X11_use 28 rfl)
def f_X11_visits (Z : Nat) (M : Mem) (p0 : Int32) : Option (Except Nat Int64 × Mem) :=
  clT (f_X11_needState Z M p0) (fun v1 M2 => cl (f_X11_followRules Z M2) (fun v3 M4 => cl (f_X1_visitsOf Z M4 p0) (fun v5 M6 => some (.ok v5, M6)))) pr
set_option maxRecDepth 100000 in
theorem c_X11_visits {Γ : WC} (hN : HN Γ) {Z : Nat} {M : Mem} {p0 : Int32} {rM : Except Nat Int64 × Mem}  (hf : f_X11_visits Z M p0 = some rM) : CtT Γ yX11_visits cX11_visits 2 (some .long) (rmL 8 2 12) [.ref (wad Γ 0), .int p0] M (fun v => some (.long v)) rM := by
  refine mkT hN.1 (own := RX11) rfl (by decide) (Nat.le_of_ble_eq_true rfl) (fun X C E => ?_)
  change G Γ X M 0 0 [some (.ref (wad Γ 0)), some (.int p0)] [] 0
  unfold f_X11_visits at hf
  refine x_aload_n C rfl rfl (dkAt dk_X11_visits 0 rfl) 1 rfl ?_
  refine x_iload_n C rfl rfl (dkAt dk_X11_visits 1 rfl) 2 rfl ?_
  refine t_cVv C E hf (fun r hr => c_X11_needState hN hr) mw_X11_needState ln_RX11_166 mi_X11_needState (hN.rc (ci := 11) sh0 rc11) (ro_of (by decide) (by decide) (by decide) (by decide)) rfl rfl (Nat.le_of_ble_eq_true rfl) (dkAt dk_X11_visits 2 rfl) 5 rfl 2 12 rfl rfl (by decide) (by decide) (fun v1 M2 hf => ?_)
  refine x_aload_n C rfl rfl (dkAt dk_X11_visits 3 rfl) 6 rfl ?_
  obtain ⟨v3, M4, h8, hf⟩ := cl_inv hf
  refine x_cVv C (c_X11_followRules hN h8) mw_X11_followRules ln_RX11_205 mi_X11_followRules (hN.rc (ci := 11) sh0 rc11) (ro_of (by decide) (by decide) (by decide) (by decide)) rfl rfl (Nat.le_of_ble_eq_true rfl) (dkAt dk_X11_visits 4 rfl) 9 rfl 2 12 rfl rfl ?_
  refine x_aload_n C rfl rfl (dkAt dk_X11_visits 5 rfl) 10 rfl ?_
  refine x_getS C lk_RX11_53 (hN.sh sh0) (hN.sr sr0_5) (dkAt dk_X11_visits 6 rfl) 13 rfl ?_
  refine x_iload_n C rfl rfl (dkAt dk_X11_visits 7 rfl) 14 rfl ?_
  obtain ⟨v5, M6, h7, hf⟩ := cl_inv hf
  refine x_cVl C (c_X1_visitsOf hN h7) mw_X1_visitsOf ln_RX11_220 mi_X1_visitsOf (hN.rc (ci := 1) sh16 rc1) (ro_of (by decide) (by decide) (by decide) (by decide)) rfl rfl (Nat.le_of_ble_eq_true rfl) (dkAt dk_X11_visits 8 rfl) 17 rfl 2 12 rfl rfl ?_
  exact t_lret C E hf (by decide) (by decide) (dkAt dk_X11_visits 9 rfl)
def f_X11_hit (Z : Nat) (M : Mem) (p0 : Int32) : Option (Except Nat Int64 × Mem) :=
  clT (f_X11_needState Z M p0) (fun v1 M2 => cl (f_X11_followRules Z M2) (fun v3 M4 => cl (f_X1_hitOf Z M4 p0) (fun v5 M6 => some (.ok v5, M6)))) pr
set_option maxRecDepth 100000 in
theorem c_X11_hit {Γ : WC} (hN : HN Γ) {Z : Nat} {M : Mem} {p0 : Int32} {rM : Except Nat Int64 × Mem}  (hf : f_X11_hit Z M p0 = some rM) : CtT Γ yX11_hit cX11_hit 2 (some .long) (rmL 8 2 12) [.ref (wad Γ 0), .int p0] M (fun v => some (.long v)) rM := by
  refine mkT hN.1 (own := RX11) rfl (by decide) (Nat.le_of_ble_eq_true rfl) (fun X C E => ?_)
  change G Γ X M 0 0 [some (.ref (wad Γ 0)), some (.int p0)] [] 0
  unfold f_X11_hit at hf
  refine x_aload_n C rfl rfl (dkAt dk_X11_hit 0 rfl) 1 rfl ?_
  refine x_iload_n C rfl rfl (dkAt dk_X11_hit 1 rfl) 2 rfl ?_
  refine t_cVv C E hf (fun r hr => c_X11_needState hN hr) mw_X11_needState ln_RX11_166 mi_X11_needState (hN.rc (ci := 11) sh0 rc11) (ro_of (by decide) (by decide) (by decide) (by decide)) rfl rfl (Nat.le_of_ble_eq_true rfl) (dkAt dk_X11_hit 2 rfl) 5 rfl 2 12 rfl rfl (by decide) (by decide) (fun v1 M2 hf => ?_)
  refine x_aload_n C rfl rfl (dkAt dk_X11_hit 3 rfl) 6 rfl ?_
  obtain ⟨v3, M4, h8, hf⟩ := cl_inv hf
  refine x_cVv C (c_X11_followRules hN h8) mw_X11_followRules ln_RX11_205 mi_X11_followRules (hN.rc (ci := 11) sh0 rc11) (ro_of (by decide) (by decide) (by decide) (by decide)) rfl rfl (Nat.le_of_ble_eq_true rfl) (dkAt dk_X11_hit 4 rfl) 9 rfl 2 12 rfl rfl ?_
  refine x_aload_n C rfl rfl (dkAt dk_X11_hit 5 rfl) 10 rfl ?_
  refine x_getS C lk_RX11_53 (hN.sh sh0) (hN.sr sr0_5) (dkAt dk_X11_hit 6 rfl) 13 rfl ?_
  refine x_iload_n C rfl rfl (dkAt dk_X11_hit 7 rfl) 14 rfl ?_
  obtain ⟨v5, M6, h7, hf⟩ := cl_inv hf
  refine x_cVl C (c_X1_hitOf hN h7) mw_X1_hitOf ln_RX11_224 mi_X1_hitOf (hN.rc (ci := 1) sh16 rc1) (ro_of (by decide) (by decide) (by decide) (by decide)) rfl rfl (Nat.le_of_ble_eq_true rfl) (dkAt dk_X11_hit 8 rfl) 17 rfl 2 12 rfl rfl ?_
  exact t_lret C E hf (by decide) (by decide) (dkAt dk_X11_hit 9 rfl)
def f_X11_unit (Z : Nat) (M : Mem)  : Option (Except Nat Int64 × Mem) :=
  clT (f_X11_needChain Z M) (fun v1 M2 => bd (gI M2 (10) 4) (fun v3 => cl (f_X11_unitOf Z M2 v3) (fun v4 M5 => some (.ok v4, M5)))) pr
set_option maxRecDepth 100000 in
theorem c_X11_unit {Γ : WC} (hN : HN Γ) {Z : Nat} {M : Mem}  {rM : Except Nat Int64 × Mem}  (hf : f_X11_unit Z M  = some rM) : CtT Γ yX11_unit cX11_unit 1 (some .long) (rmL 7 1 6) [.ref (wad Γ 0)] M (fun v => some (.long v)) rM := by
  refine mkT hN.1 (own := RX11) rfl (by decide) (Nat.le_of_ble_eq_true rfl) (fun X C E => ?_)
  change G Γ X M 0 0 [some (.ref (wad Γ 0))] [] 0
  unfold f_X11_unit at hf
  refine x_aload_n C rfl rfl (dkAt dk_X11_unit 0 rfl) 1 rfl ?_
  refine t_cVv C E hf (fun r hr => c_X11_needChain hN hr) mw_X11_needChain ln_RX11_160 mi_X11_needChain (hN.rc (ci := 11) sh0 rc11) (ro_of (by decide) (by decide) (by decide) (by decide)) rfl rfl (Nat.le_of_ble_eq_true rfl) (dkAt dk_X11_unit 1 rfl) 4 rfl 1 6 rfl rfl (by decide) (by decide) (fun v1 M2 hf => ?_)
  refine x_aload_n C rfl rfl (dkAt dk_X11_unit 2 rfl) 5 rfl ?_
  refine x_getS C lk_RX11_42 (hN.sh sh0) (hN.sr sr0_3) (dkAt dk_X11_unit 3 rfl) 8 rfl ?_
  refine x_getI C lk_RX11_157 (hN.sh sh10) (dkAt dk_X11_unit 4 rfl) 11 rfl hf (fun v3 hf => ?_)
  obtain ⟨v4, M5, h6, hf⟩ := cl_inv hf
  refine x_cSl C (c_X11_unitOf hN h6) mw_X11_unitOf ln_RX11_227 ms_X11_unitOf (ro_of (by decide) (by decide) (by decide) (by decide)) rfl rfl (Nat.le_of_ble_eq_true rfl) (dkAt dk_X11_unit 5 rfl) 14 rfl 1 6 rfl rfl ?_
  exact t_lret C E hf (by decide) (by decide) (dkAt dk_X11_unit 6 rfl)
def f_X11_gainOfRun (Z : Nat) (M : Mem)  : Option (Except Nat Int64 × Mem) :=
  clT (f_X11_needChain Z M) (fun v1 M2 => cl (f_X11_followRules Z M2) (fun v3 M4 => cl (f_X1_gainOf Z M4 (11)) (fun v5 M6 => some (.ok v5, M6)))) pr
set_option maxRecDepth 100000 in
theorem c_X11_gainOfRun {Γ : WC} (hN : HN Γ) {Z : Nat} {M : Mem}  {rM : Except Nat Int64 × Mem}  (hf : f_X11_gainOfRun Z M  = some rM) : CtT Γ yX11_gainOfRun cX11_gainOfRun 1 (some .long) (rmL 7 1 6) [.ref (wad Γ 0)] M (fun v => some (.long v)) rM := by
  refine mkT hN.1 (own := RX11) rfl (by decide) (Nat.le_of_ble_eq_true rfl) (fun X C E => ?_)
  change G Γ X M 0 0 [some (.ref (wad Γ 0))] [] 0
  unfold f_X11_gainOfRun at hf
  refine x_aload_n C rfl rfl (dkAt dk_X11_gainOfRun 0 rfl) 1 rfl ?_
  refine t_cVv C E hf (fun r hr => c_X11_needChain hN hr) mw_X11_needChain ln_RX11_160 mi_X11_needChain (hN.rc (ci := 11) sh0 rc11) (ro_of (by decide) (by decide) (by decide) (by decide)) rfl rfl (Nat.le_of_ble_eq_true rfl) (dkAt dk_X11_gainOfRun 1 rfl) 4 rfl 1 6 rfl rfl (by decide) (by decide) (fun v1 M2 hf => ?_)
  refine x_aload_n C rfl rfl (dkAt dk_X11_gainOfRun 2 rfl) 5 rfl ?_
  obtain ⟨v3, M4, h8, hf⟩ := cl_inv hf
  refine x_cVv C (c_X11_followRules hN h8) mw_X11_followRules ln_RX11_205 mi_X11_followRules (hN.rc (ci := 11) sh0 rc11) (ro_of (by decide) (by decide) (by decide) (by decide)) rfl rfl (Nat.le_of_ble_eq_true rfl) (dkAt dk_X11_gainOfRun 3 rfl) 8 rfl 1 6 rfl rfl ?_
  refine x_aload_n C rfl rfl (dkAt dk_X11_gainOfRun 4 rfl) 9 rfl ?_
  refine x_getS C lk_RX11_53 (hN.sh sh0) (hN.sr sr0_5) (dkAt dk_X11_gainOfRun 5 rfl) 12 rfl ?_
  refine x_aload_n C rfl rfl (dkAt dk_X11_gainOfRun 6 rfl) 13 rfl ?_
  refine x_getS C lk_RX11_42 (hN.sh sh0) (hN.sr sr0_3) (dkAt dk_X11_gainOfRun 7 rfl) 16 rfl ?_
  refine x_getS C lk_RX11_192 (hN.sh sh10) (hN.sr sr10_0) (dkAt dk_X11_gainOfRun 8 rfl) 19 rfl ?_
  obtain ⟨v5, M6, h7, hf⟩ := cl_inv hf
  refine x_cVl C (c_X1_gainOf hN sh11 h7) mw_X1_gainOf ln_RX11_230 mi_X1_gainOf (hN.rc (ci := 1) sh16 rc1) (ro_of (by decide) (by decide) (by decide) (by decide)) rfl rfl (Nat.le_of_ble_eq_true rfl) (dkAt dk_X11_gainOfRun 9 rfl) 22 rfl 1 6 rfl rfl ?_
  exact t_lret C E hf (by decide) (by decide) (dkAt dk_X11_gainOfRun 10 rfl)
def f_X11_usedOfRun (Z : Nat) (M : Mem) (p0 : Int32) : Option (Except Nat Int64 × Mem) :=
  clT (f_X11_needBudget Z M p0) (fun v1 M2 => cl (f_X11_followRules Z M2) (fun v3 M4 => cl (f_X1_usedOf Z M4 (11) p0) (fun v5 M6 => some (.ok v5, M6)))) pr
set_option maxRecDepth 100000 in
theorem c_X11_usedOfRun {Γ : WC} (hN : HN Γ) {Z : Nat} {M : Mem} {p0 : Int32} {rM : Except Nat Int64 × Mem}  (hf : f_X11_usedOfRun Z M p0 = some rM) : CtT Γ yX11_usedOfRun cX11_usedOfRun 2 (some .long) (rmL 8 2 12) [.ref (wad Γ 0), .int p0] M (fun v => some (.long v)) rM := by
  refine mkT hN.1 (own := RX11) rfl (by decide) (Nat.le_of_ble_eq_true rfl) (fun X C E => ?_)
  change G Γ X M 0 0 [some (.ref (wad Γ 0)), some (.int p0)] [] 0
  unfold f_X11_usedOfRun at hf
  refine x_aload_n C rfl rfl (dkAt dk_X11_usedOfRun 0 rfl) 1 rfl ?_
  refine x_iload_n C rfl rfl (dkAt dk_X11_usedOfRun 1 rfl) 2 rfl ?_
  refine t_cVv C E hf (fun r hr => c_X11_needBudget hN hr) mw_X11_needBudget ln_RX11_183 mi_X11_needBudget (hN.rc (ci := 11) sh0 rc11) (ro_of (by decide) (by decide) (by decide) (by decide)) rfl rfl (Nat.le_of_ble_eq_true rfl) (dkAt dk_X11_usedOfRun 2 rfl) 5 rfl 2 12 rfl rfl (by decide) (by decide) (fun v1 M2 hf => ?_)
  refine x_aload_n C rfl rfl (dkAt dk_X11_usedOfRun 3 rfl) 6 rfl ?_
  obtain ⟨v3, M4, h8, hf⟩ := cl_inv hf
  refine x_cVv C (c_X11_followRules hN h8) mw_X11_followRules ln_RX11_205 mi_X11_followRules (hN.rc (ci := 11) sh0 rc11) (ro_of (by decide) (by decide) (by decide) (by decide)) rfl rfl (Nat.le_of_ble_eq_true rfl) (dkAt dk_X11_usedOfRun 4 rfl) 9 rfl 2 12 rfl rfl ?_
  refine x_aload_n C rfl rfl (dkAt dk_X11_usedOfRun 5 rfl) 10 rfl ?_
  refine x_getS C lk_RX11_53 (hN.sh sh0) (hN.sr sr0_5) (dkAt dk_X11_usedOfRun 6 rfl) 13 rfl ?_
  refine x_aload_n C rfl rfl (dkAt dk_X11_usedOfRun 7 rfl) 14 rfl ?_
  refine x_getS C lk_RX11_42 (hN.sh sh0) (hN.sr sr0_3) (dkAt dk_X11_usedOfRun 8 rfl) 17 rfl ?_
  refine x_getS C lk_RX11_192 (hN.sh sh10) (hN.sr sr10_0) (dkAt dk_X11_usedOfRun 9 rfl) 20 rfl ?_
  refine x_iload_n C rfl rfl (dkAt dk_X11_usedOfRun 10 rfl) 21 rfl ?_
  obtain ⟨v5, M6, h7, hf⟩ := cl_inv hf
  refine x_cVl C (c_X1_usedOf hN sh11 h7) mw_X1_usedOf ln_RX11_234 mi_X1_usedOf (hN.rc (ci := 1) sh16 rc1) (ro_of (by decide) (by decide) (by decide) (by decide)) rfl rfl (Nat.le_of_ble_eq_true rfl) (dkAt dk_X11_usedOfRun 11 rfl) 24 rfl 2 12 rfl rfl ?_
  exact t_lret C E hf (by decide) (by decide) (dkAt dk_X11_usedOfRun 12 rfl)
def f_X11_left (Z : Nat) (M : Mem) (p0 : Int32) : Option (Except Nat Int64 × Mem) :=
  clT (f_X11_needBudget Z M p0) (fun v1 M2 => cl (f_X11_followRules Z M2) (fun v3 M4 => rdI M4 13 3 p0 (fun v5 => bd (gI M4 (10) 4) (fun v6 => cl (f_X11_unitOf Z M4 v6) (fun v7 M8 => cl (f_X1_usedOf Z M8 (11) p0) (fun v9 M10 => some (.ok ((v5.toInt64 * v7) - v9), M10))))))) pr
set_option maxRecDepth 100000 in
theorem c_X11_left {Γ : WC} (hN : HN Γ) {Z : Nat} {M : Mem} {p0 : Int32} {rM : Except Nat Int64 × Mem}  (hf : f_X11_left Z M p0 = some rM) : CtT Γ yX11_left cX11_left 2 (some .long) (rmL 8 2 12) [.ref (wad Γ 0), .int p0] M (fun v => some (.long v)) rM := by
  refine mkT hN.1 (own := RX11) rfl (by decide) (Nat.le_of_ble_eq_true rfl) (fun X C E => ?_)
  change G Γ X M 0 0 [some (.ref (wad Γ 0)), some (.int p0)] [] 0
  unfold f_X11_left at hf
  refine x_aload_n C rfl rfl (dkAt dk_X11_left 0 rfl) 1 rfl ?_
  refine x_iload_n C rfl rfl (dkAt dk_X11_left 1 rfl) 2 rfl ?_
  refine t_cVv C E hf (fun r hr => c_X11_needBudget hN hr) mw_X11_needBudget ln_RX11_183 mi_X11_needBudget (hN.rc (ci := 11) sh0 rc11) (ro_of (by decide) (by decide) (by decide) (by decide)) rfl rfl (Nat.le_of_ble_eq_true rfl) (dkAt dk_X11_left 2 rfl) 5 rfl 2 12 rfl rfl (by decide) (by decide) (fun v1 M2 hf => ?_)
  refine x_aload_n C rfl rfl (dkAt dk_X11_left 3 rfl) 6 rfl ?_
  obtain ⟨v3, M4, h13, hf⟩ := cl_inv hf
  refine x_cVv C (c_X11_followRules hN h13) mw_X11_followRules ln_RX11_205 mi_X11_followRules (hN.rc (ci := 11) sh0 rc11) (ro_of (by decide) (by decide) (by decide) (by decide)) rfl rfl (Nat.le_of_ble_eq_true rfl) (dkAt dk_X11_left 4 rfl) 9 rfl 2 12 rfl rfl ?_
  refine x_aload_n C rfl rfl (dkAt dk_X11_left 5 rfl) 10 rfl ?_
  refine x_getS C lk_RX11_42 (hN.sh sh0) (hN.sr sr0_3) (dkAt dk_X11_left 6 rfl) 13 rfl ?_
  refine x_getS C lk_RX11_199 (hN.sh sh10) (hN.sr sr10_2) (dkAt dk_X11_left 7 rfl) 16 rfl ?_
  refine x_iload_n C rfl rfl (dkAt dk_X11_left 8 rfl) 17 rfl ?_
  refine x_iald C (hN.sh sh13) (dkAt dk_X11_left 9 rfl) 18 rfl hf (fun v5 hf => ?_)
  refine x_i2l C (dkAt dk_X11_left 10 rfl) 19 rfl ?_
  refine x_aload_n C rfl rfl (dkAt dk_X11_left 11 rfl) 20 rfl ?_
  refine x_getS C lk_RX11_42 (hN.sh sh0) (hN.sr sr0_3) (dkAt dk_X11_left 12 rfl) 23 rfl ?_
  refine x_getI C lk_RX11_157 (hN.sh sh10) (dkAt dk_X11_left 13 rfl) 26 rfl hf (fun v6 hf => ?_)
  obtain ⟨v7, M8, h12, hf⟩ := cl_inv hf
  refine x_cSl C (c_X11_unitOf hN h12) mw_X11_unitOf ln_RX11_227 ms_X11_unitOf (ro_of (by decide) (by decide) (by decide) (by decide)) rfl rfl (Nat.le_of_ble_eq_true rfl) (dkAt dk_X11_left 14 rfl) 29 rfl 2 12 rfl rfl ?_
  refine x_lmul C (dkAt dk_X11_left 15 rfl) 30 rfl ?_
  refine x_aload_n C rfl rfl (dkAt dk_X11_left 16 rfl) 31 rfl ?_
  refine x_getS C lk_RX11_53 (hN.sh sh0) (hN.sr sr0_5) (dkAt dk_X11_left 17 rfl) 34 rfl ?_
  refine x_aload_n C rfl rfl (dkAt dk_X11_left 18 rfl) 35 rfl ?_
  refine x_getS C lk_RX11_42 (hN.sh sh0) (hN.sr sr0_3) (dkAt dk_X11_left 19 rfl) 38 rfl ?_
  refine x_getS C lk_RX11_192 (hN.sh sh10) (hN.sr sr10_0) (dkAt dk_X11_left 20 rfl) 41 rfl ?_
  refine x_iload_n C rfl rfl (dkAt dk_X11_left 21 rfl) 42 rfl ?_
  obtain ⟨v9, M10, h11, hf⟩ := cl_inv hf
  refine x_cVl C (c_X1_usedOf hN sh11 h11) mw_X1_usedOf ln_RX11_234 mi_X1_usedOf (hN.rc (ci := 1) sh16 rc1) (ro_of (by decide) (by decide) (by decide) (by decide)) rfl rfl (Nat.le_of_ble_eq_true rfl) (dkAt dk_X11_left 22 rfl) 45 rfl 2 12 rfl rfl ?_
  refine x_lsub C (dkAt dk_X11_left 23 rfl) 46 rfl ?_
  exact t_lret C E hf (by decide) (by decide) (dkAt dk_X11_left 24 rfl)
def f_X11_brokenWith_L26 (Z : Nat) (w : Nat) : Nat → Int32 → Int32 → Mem → Option (Int32 × Mem)
  | 0, _, _, _ => none
  | n + 1, x5, x6, M7 => bd (gI M7 (3) 1) (fun v8 => (if v8 ≤ x6 then some (x5, M7) else cl (f_X1_usedOf Z M7 w x6) (fun v9 M10 => rdI M10 13 3 x6 (fun v11 => bd (gI M10 (10) 4) (fun v12 => cl (f_X11_unitOf Z M10 v12) (fun v13 M14 => (if v9 ≤ (v11.toInt64 * v13) then f_X11_brokenWith_L26 Z w n x5 (x6 + (1 : Int32)) M14 else f_X11_brokenWith_L26 Z w n (x5 ||| ((1 : Int32) <<< (x6 &&& 31))) (x6 + (1 : Int32)) M14)))))))
def f_X11_brokenWith (Z : Nat) (M : Mem) (w : Nat) : Option (Int32 × Mem) :=
  bd (gI M (10) 3) (fun v1 => bd (gI M (10) 4) (fun v2 => cl (f_X1_follow Z M w v1 v2) (fun v3 M4 => f_X11_brokenWith_L26 Z w Z (0 : Int32) (0 : Int32) M4)))
set_option maxRecDepth 100000 in
theorem l_X11_brokenWith_L26 {Γ : WC} {X : MX} (hN : HN Γ) (C : CX Γ X cX11_brokenWith 4 RX11 (some .int) (rmL 4 0 0)) {rM : Int32 × Mem} (E : EndN Γ X (some (.int rM.1)) rM.2 0 0) {Z : Nat} {w : Nat} (h_w : SH[w]? = some (0, 18)) : ∀ (n : Nat) (x5 : Int32) (x6 : Int32) (M7 : Mem), f_X11_brokenWith_L26 Z w n x5 x6 M7 = some rM → G Γ X M7 0 0 [some (.ref (wad Γ 0)), some (.ref (wad Γ w)), some (.int x5), some (.int x6)] [] 26 := by
  intro n
  induction n with
  | zero =>
    intro x5 x6 M7 hf
    have hf0 : (none : Option _) = some rM := hf
    cases hf0
  | succ n ih =>
    intro x5 x6 M7 hf
    rw [f_X11_brokenWith_L26] at hf
    refine x_iload_n C rfl rfl (dkAt dk_X11_brokenWith 14 rfl) 27 rfl ?_
    refine x_aload_n C rfl rfl (dkAt dk_X11_brokenWith 15 rfl) 28 rfl ?_
    refine x_getS C lk_RX11_38 (hN.sh sh0) (hN.sr sr0_2) (dkAt dk_X11_brokenWith 16 rfl) 31 rfl ?_
    refine x_getI C lk_RX11_154 (hN.sh sh3) (dkAt dk_X11_brokenWith 17 rfl) 34 rfl hf (fun v8 hf => ?_)
    refine x_icmp_ge C 83 (dkAt dk_X11_brokenWith 18 rfl) 37 rfl (by decide) hf (fun hf => ?_) (fun hf => ?_)
    · refine x_iload_n C rfl rfl (dkAt dk_X11_brokenWith 45 rfl) 84 rfl ?_
      exact x_iret C E hf (by decide) (by decide) (dkAt dk_X11_brokenWith 46 rfl)
    · refine x_aload_n C rfl rfl (dkAt dk_X11_brokenWith 19 rfl) 38 rfl ?_
      refine x_getS C lk_RX11_53 (hN.sh sh0) (hN.sr sr0_5) (dkAt dk_X11_brokenWith 20 rfl) 41 rfl ?_
      refine x_aload_n C rfl rfl (dkAt dk_X11_brokenWith 21 rfl) 42 rfl ?_
      refine x_iload_n C rfl rfl (dkAt dk_X11_brokenWith 22 rfl) 43 rfl ?_
      obtain ⟨v9, M10, h16, hf⟩ := cl_inv hf
      refine x_cVl C (c_X1_usedOf hN h_w h16) mw_X1_usedOf ln_RX11_234 mi_X1_usedOf (hN.rc (ci := 1) sh16 rc1) (ro_of (by decide) (by decide) (by decide) (by decide)) rfl rfl (Nat.le_of_ble_eq_true rfl) (dkAt dk_X11_brokenWith 23 rfl) 46 rfl 0 0 rfl rfl ?_
      refine x_aload_n C rfl rfl (dkAt dk_X11_brokenWith 24 rfl) 47 rfl ?_
      refine x_getS C lk_RX11_42 (hN.sh sh0) (hN.sr sr0_3) (dkAt dk_X11_brokenWith 25 rfl) 50 rfl ?_
      refine x_getS C lk_RX11_199 (hN.sh sh10) (hN.sr sr10_2) (dkAt dk_X11_brokenWith 26 rfl) 53 rfl ?_
      refine x_iload_n C rfl rfl (dkAt dk_X11_brokenWith 27 rfl) 54 rfl ?_
      refine x_iald C (hN.sh sh13) (dkAt dk_X11_brokenWith 28 rfl) 55 rfl hf (fun v11 hf => ?_)
      refine x_i2l C (dkAt dk_X11_brokenWith 29 rfl) 56 rfl ?_
      refine x_aload_n C rfl rfl (dkAt dk_X11_brokenWith 30 rfl) 57 rfl ?_
      refine x_getS C lk_RX11_42 (hN.sh sh0) (hN.sr sr0_3) (dkAt dk_X11_brokenWith 31 rfl) 60 rfl ?_
      refine x_getI C lk_RX11_157 (hN.sh sh10) (dkAt dk_X11_brokenWith 32 rfl) 63 rfl hf (fun v12 hf => ?_)
      obtain ⟨v13, M14, h15, hf⟩ := cl_inv hf
      refine x_cSl C (c_X11_unitOf hN h15) mw_X11_unitOf ln_RX11_227 ms_X11_unitOf (ro_of (by decide) (by decide) (by decide) (by decide)) rfl rfl (Nat.le_of_ble_eq_true rfl) (dkAt dk_X11_brokenWith 33 rfl) 66 rfl 0 0 rfl rfl ?_
      refine x_lmul C (dkAt dk_X11_brokenWith 34 rfl) 67 rfl ?_
      refine x_lcmp_le C 77 (dkAt dk_X11_brokenWith 35 rfl) 71 rfl (dkAt dk_X11_brokenWith 36 rfl) (by decide) hf (fun hf => ?_) (fun hf => ?_)
      · refine x_iinc C (v := (x6 + (1 : Int32))) (L1 := [some (.ref (wad Γ 0)), some (.ref (wad Γ w)), some (.int x5), some (.int (x6 + (1 : Int32)))]) (dkAt dk_X11_brokenWith 43 rfl) 80 rfl rfl rfl (by decide) rfl ?_
        refine x_goto C 26 (dkAt dk_X11_brokenWith 44 rfl) (by decide) ?_
        exact G.weak (L := [some (.ref (wad Γ 0)), some (.ref (wad Γ w)), some (.int x5), some (.int (x6 + (1 : Int32)))]) ⟨rfl, rfl, rfl, rfl, trivial⟩ (ih _ _ _ hf)
      · refine x_iload_n C rfl rfl (dkAt dk_X11_brokenWith 37 rfl) 72 rfl ?_
        refine x_iconst C (v := (1 : Int32)) (by decide) (dkAt dk_X11_brokenWith 38 rfl) 73 rfl ?_
        refine x_iload_n C rfl rfl (dkAt dk_X11_brokenWith 39 rfl) 74 rfl ?_
        refine x_ishl C (dkAt dk_X11_brokenWith 40 rfl) 75 rfl ?_
        refine x_ior C (dkAt dk_X11_brokenWith 41 rfl) 76 rfl ?_
        refine x_istore_n C (L1 := [some (.ref (wad Γ 0)), some (.ref (wad Γ w)), some (.int (x5 ||| ((1 : Int32) <<< (x6 &&& 31)))), some (.int x6)]) (dkAt dk_X11_brokenWith 42 rfl) 77 rfl rfl (by decide) rfl ?_
        refine x_iinc C (v := (x6 + (1 : Int32))) (L1 := [some (.ref (wad Γ 0)), some (.ref (wad Γ w)), some (.int (x5 ||| ((1 : Int32) <<< (x6 &&& 31)))), some (.int (x6 + (1 : Int32)))]) (dkAt dk_X11_brokenWith 43 rfl) 80 rfl rfl rfl (by decide) rfl ?_
        refine x_goto C 26 (dkAt dk_X11_brokenWith 44 rfl) (by decide) ?_
        exact G.weak (L := [some (.ref (wad Γ 0)), some (.ref (wad Γ w)), some (.int (x5 ||| ((1 : Int32) <<< (x6 &&& 31)))), some (.int (x6 + (1 : Int32)))]) ⟨rfl, rfl, rfl, rfl, trivial⟩ (ih _ _ _ hf)
set_option maxRecDepth 100000 in
theorem c_X11_brokenWith {Γ : WC} (hN : HN Γ) {Z : Nat} {M : Mem} {w : Nat} {rM : Int32 × Mem} (h_w : SH[w]? = some (0, 18)) (hf : f_X11_brokenWith Z M w = some rM) : Ct Γ yX11_brokenWith cX11_brokenWith 4 (some .int) (rmL 4 0 0) [.ref (wad Γ 0), .ref (wad Γ w)] M (some (.int rM.1)) rM.2 := by
  refine mkN hN.1 (own := RX11) rfl (by decide) (Nat.le_of_ble_eq_true rfl) (fun X C E => ?_)
  change G Γ X M 0 0 [some (.ref (wad Γ 0)), some (.ref (wad Γ w))] [] 0
  unfold f_X11_brokenWith at hf
  refine x_aload_n C rfl rfl (dkAt dk_X11_brokenWith 0 rfl) 1 rfl ?_
  refine x_getS C lk_RX11_53 (hN.sh sh0) (hN.sr sr0_5) (dkAt dk_X11_brokenWith 1 rfl) 4 rfl ?_
  refine x_aload_n C rfl rfl (dkAt dk_X11_brokenWith 2 rfl) 5 rfl ?_
  refine x_aload_n C rfl rfl (dkAt dk_X11_brokenWith 3 rfl) 6 rfl ?_
  refine x_getS C lk_RX11_42 (hN.sh sh0) (hN.sr sr0_3) (dkAt dk_X11_brokenWith 4 rfl) 9 rfl ?_
  refine x_getI C lk_RX11_163 (hN.sh sh10) (dkAt dk_X11_brokenWith 5 rfl) 12 rfl hf (fun v1 hf => ?_)
  refine x_aload_n C rfl rfl (dkAt dk_X11_brokenWith 6 rfl) 13 rfl ?_
  refine x_getS C lk_RX11_42 (hN.sh sh0) (hN.sr sr0_3) (dkAt dk_X11_brokenWith 7 rfl) 16 rfl ?_
  refine x_getI C lk_RX11_157 (hN.sh sh10) (dkAt dk_X11_brokenWith 8 rfl) 19 rfl hf (fun v2 hf => ?_)
  obtain ⟨v3, M4, h17, hf⟩ := cl_inv hf
  refine x_cVv C (c_X1_follow hN h_w h17) mw_X1_follow ln_RX11_408 mi_X1_follow (hN.rc (ci := 1) sh16 rc1) (ro_of (by decide) (by decide) (by decide) (by decide)) rfl rfl (Nat.le_of_ble_eq_true rfl) (dkAt dk_X11_brokenWith 9 rfl) 22 rfl 0 0 rfl rfl ?_
  refine x_iconst C (v := (0 : Int32)) (by decide) (dkAt dk_X11_brokenWith 10 rfl) 23 rfl ?_
  refine x_istore_n C (L1 := [some (.ref (wad Γ 0)), some (.ref (wad Γ w)), some (.int (0 : Int32))]) (dkAt dk_X11_brokenWith 11 rfl) 24 rfl rfl (by decide) rfl ?_
  refine x_iconst C (v := (0 : Int32)) (by decide) (dkAt dk_X11_brokenWith 12 rfl) 25 rfl ?_
  refine x_istore_n C (L1 := [some (.ref (wad Γ 0)), some (.ref (wad Γ w)), some (.int (0 : Int32)), some (.int (0 : Int32))]) (dkAt dk_X11_brokenWith 13 rfl) 26 rfl rfl (by decide) rfl ?_
  refine G.weak (L := [some (.ref (wad Γ 0)), some (.ref (wad Γ w)), some (.int (0 : Int32)), some (.int (0 : Int32))]) ⟨rfl, rfl, rfl, rfl, trivial⟩ ?_
  refine l_X11_brokenWith_L26 hN C E h_w Z _ _ _ hf
def f_X11_broken (Z : Nat) (M : Mem)  : Option (Except Nat Int32 × Mem) :=
  clT (f_X11_needChain Z M) (fun v1 M2 => cl (f_X11_brokenWith Z M2 (11)) (fun v3 M4 => some (.ok v3, M4))) pr
set_option maxRecDepth 100000 in
theorem c_X11_broken {Γ : WC} (hN : HN Γ) {Z : Nat} {M : Mem}  {rM : Except Nat Int32 × Mem}  (hf : f_X11_broken Z M  = some rM) : CtT Γ yX11_broken cX11_broken 1 (some .int) (rmL 7 1 6) [.ref (wad Γ 0)] M (fun v => some (.int v)) rM := by
  refine mkT hN.1 (own := RX11) rfl (by decide) (Nat.le_of_ble_eq_true rfl) (fun X C E => ?_)
  change G Γ X M 0 0 [some (.ref (wad Γ 0))] [] 0
  unfold f_X11_broken at hf
  refine x_aload_n C rfl rfl (dkAt dk_X11_broken 0 rfl) 1 rfl ?_
  refine t_cVv C E hf (fun r hr => c_X11_needChain hN hr) mw_X11_needChain ln_RX11_160 mi_X11_needChain (hN.rc (ci := 11) sh0 rc11) (ro_of (by decide) (by decide) (by decide) (by decide)) rfl rfl (Nat.le_of_ble_eq_true rfl) (dkAt dk_X11_broken 1 rfl) 4 rfl 1 6 rfl rfl (by decide) (by decide) (fun v1 M2 hf => ?_)
  refine x_aload_n C rfl rfl (dkAt dk_X11_broken 2 rfl) 5 rfl ?_
  refine x_aload_n C rfl rfl (dkAt dk_X11_broken 3 rfl) 6 rfl ?_
  refine x_getS C lk_RX11_42 (hN.sh sh0) (hN.sr sr0_3) (dkAt dk_X11_broken 4 rfl) 9 rfl ?_
  refine x_getS C lk_RX11_192 (hN.sh sh10) (hN.sr sr10_0) (dkAt dk_X11_broken 5 rfl) 12 rfl ?_
  obtain ⟨v3, M4, h5, hf⟩ := cl_inv hf
  refine x_cVi C (c_X11_brokenWith hN sh11 h5) mw_X11_brokenWith ln_RX11_238 mi_X11_brokenWith (hN.rc (ci := 11) sh0 rc11) (ro_of (by decide) (by decide) (by decide) (by decide)) rfl rfl (Nat.le_of_ble_eq_true rfl) (dkAt dk_X11_broken 6 rfl) 15 rfl 1 6 rfl rfl ?_
  exact t_iret C E hf (by decide) (by decide) (dkAt dk_X11_broken 7 rfl)
