def f_J7_fill_53178_L5 (Z : Nat) (a : Nat) (na : Nat) (p1 : Int32) : Nat → Int32 → Mem → Option (Unit × Mem)
  | 0, _, _ => none
  | n + 1, x1, M2 => (if (Int32.ofNat na) ≤ x1 then some ((), M2) else wrI M2 a na x1 p1 (fun M3 => f_J7_fill_53178_L5 Z a na p1 n (x1 + (1 : Int32)) M3))
def f_J7_fill_53178 (Z : Nat) (M : Mem) (a : Nat) (na : Nat) (p1 : Int32) : Option (Unit × Mem) :=
  f_J7_fill_53178_L5 Z a na p1 Z (0 : Int32) M
set_option maxRecDepth 100000 in
theorem l_J7_fill_53178_L5 {Γ : WC} {X : MX} (hN : HN Γ) (C : CX Γ X cJ7_fill_53178 4 RJ7 none (rmL 0 0 0)) {rM : Unit × Mem} (E : EndN Γ X none rM.2 0 0) {Z : Nat} {a : Nat} {na : Nat} {p1 : Int32} (h_a : SH[a]? = some (0, na)) : ∀ (n : Nat) (x1 : Int32) (M2 : Mem), f_J7_fill_53178_L5 Z a na p1 n x1 M2 = some rM → G Γ X M2 0 0 [some (.ref (wad Γ a)), some (.int p1), some (.int x1), some (.int (Int32.ofNat na))] [] 5 := by
  intro n
  induction n with
  | zero =>
    intro x1 M2 hf
    have hf0 : (none : Option _) = some rM := hf
    cases hf0
  | succ n ih =>
    intro x1 M2 hf
    rw [f_J7_fill_53178_L5] at hf
    refine x_iload_n C rfl rfl (dkAt dk_J7_fill_53178 5 rfl) 6 rfl ?_
    refine x_iload_n C rfl rfl (dkAt dk_J7_fill_53178 6 rfl) 7 rfl ?_
    refine x_icmp_ge C 20 (dkAt dk_J7_fill_53178 7 rfl) 10 rfl (by decide) hf (fun hf => ?_) (fun hf => ?_)
    · exact x_vret C E hf (by decide) (by decide) (dkAt dk_J7_fill_53178 14 rfl)
    · refine x_aload_n C rfl rfl (dkAt dk_J7_fill_53178 8 rfl) 11 rfl ?_
      refine x_iload_n C rfl rfl (dkAt dk_J7_fill_53178 9 rfl) 12 rfl ?_
      refine x_iload_n C rfl rfl (dkAt dk_J7_fill_53178 10 rfl) 13 rfl ?_
      refine x_iast C (hN.sh h_a) (dkAt dk_J7_fill_53178 11 rfl) 14 rfl hf (fun M3 hf => ?_)
      refine x_iinc C (v := (x1 + (1 : Int32))) (L1 := [some (.ref (wad Γ a)), some (.int p1), some (.int (x1 + (1 : Int32))), some (.int (Int32.ofNat na))]) (dkAt dk_J7_fill_53178 12 rfl) 17 rfl rfl rfl (by decide) rfl ?_
      refine x_goto C 5 (dkAt dk_J7_fill_53178 13 rfl) (by decide) ?_
      exact G.weak (L := [some (.ref (wad Γ a)), some (.int p1), some (.int (x1 + (1 : Int32))), some (.int (Int32.ofNat na))]) ⟨rfl, rfl, rfl, rfl, trivial⟩ (ih _ _ hf)
set_option maxRecDepth 100000 in
theorem c_J7_fill_53178 {Γ : WC} (hN : HN Γ) {Z : Nat} {M : Mem} {a : Nat} {na : Nat} {p1 : Int32} {rM : Unit × Mem} (h_a : SH[a]? = some (0, na)) (hf : f_J7_fill_53178 Z M a na p1 = some rM) : Ct Γ yJ7_fill_53178 cJ7_fill_53178 4 none (rmL 0 0 0) [.ref (wad Γ a), .int p1] M none rM.2 := by
  refine mkN hN.1 (own := RJ7) rfl (by decide) (Nat.le_of_ble_eq_true rfl) (fun X C E => ?_)
  change G Γ X M 0 0 [some (.ref (wad Γ a)), some (.int p1)] [] 0
  unfold f_J7_fill_53178 at hf
  refine x_iconst C (v := (0 : Int32)) (by decide) (dkAt dk_J7_fill_53178 0 rfl) 1 rfl ?_
  refine x_istore_n C (L1 := [some (.ref (wad Γ a)), some (.int p1), some (.int (0 : Int32))]) (dkAt dk_J7_fill_53178 1 rfl) 2 rfl rfl (by decide) rfl ?_
  refine x_aload_n C rfl rfl (dkAt dk_J7_fill_53178 2 rfl) 3 rfl ?_
  refine x_alen C (by decide) (hN.sh h_a) rfl (dkAt dk_J7_fill_53178 3 rfl) 4 rfl ?_
  refine x_istore_n C (L1 := [some (.ref (wad Γ a)), some (.int p1), some (.int (0 : Int32)), some (.int (Int32.ofNat na))]) (dkAt dk_J7_fill_53178 4 rfl) 5 rfl rfl (by decide) rfl ?_
  refine G.weak (L := [some (.ref (wad Γ a)), some (.int p1), some (.int (0 : Int32)), some (.int (Int32.ofNat na))]) ⟨rfl, rfl, rfl, rfl, trivial⟩ ?_
  refine l_J7_fill_53178_L5 hN C E h_a Z _ _ hf
def f_X0_clear (Z : Nat) (M : Mem) (o : Nat) : Option (Unit × Mem) :=
  bd (sI M o 0 (0 : Int32)) (fun M1 => bd (sI M1 o 1 (0 : Int32)) (fun M2 => cl (f_J7_fill_53178 Z M2 (o + 1) 6 (0 : Int32)) (fun v3 M4 => cl (f_J7_fill_53178 Z M4 (o + 2) 18 (0 : Int32)) (fun v5 M6 => cl (f_J7_fill_53178 Z M6 (o + 3) 54 (0 : Int32)) (fun v7 M8 => cl (f_J7_fill_53178 Z M8 (o + 4) 108 (0 : Int32)) (fun v9 M10 => cl (f_J7_fill_53178 Z M10 (o + 5) 108 (0 : Int32)) (fun v11 M12 => cl (f_J7_fill_53178 Z M12 (o + 6) 18 (0 : Int32)) (fun v13 M14 => some ((), M14)))))))))
set_option maxRecDepth 100000 in
theorem c_X0_clear {Γ : WC} (hN : HN Γ) {Z : Nat} {M : Mem} {o : Nat} {rM : Unit × Mem} (h_o : SH[o]? = some (6, 8)) (hf : f_X0_clear Z M o = some rM) : Ct Γ yX0_clear cX0_clear 1 none (rmL 1 0 0) [.ref (wad Γ o)] M none rM.2 := by
  refine mkN hN.1 (own := RX0) rfl (by decide) (Nat.le_of_ble_eq_true rfl) (fun X C E => ?_)
  change G Γ X M 0 0 [some (.ref (wad Γ o))] [] 0
  unfold f_X0_clear at hf
  refine x_aload_n C rfl rfl (dkAt dk_X0_clear 0 rfl) 1 rfl ?_
  refine x_iconst C (v := (0 : Int32)) (by decide) (dkAt dk_X0_clear 1 rfl) 2 rfl ?_
  refine x_putI C pk_RX0_30 ⟨_, rfl⟩ (hN.sh h_o) (dkAt dk_X0_clear 2 rfl) 5 rfl hf (fun M1 hf => ?_)
  refine x_aload_n C rfl rfl (dkAt dk_X0_clear 3 rfl) 6 rfl ?_
  refine x_iconst C (v := (0 : Int32)) (by decide) (dkAt dk_X0_clear 4 rfl) 7 rfl ?_
  refine x_putI C pk_RX0_34 ⟨_, rfl⟩ (hN.sh h_o) (dkAt dk_X0_clear 5 rfl) 10 rfl hf (fun M2 hf => ?_)
  refine x_aload_n C rfl rfl (dkAt dk_X0_clear 6 rfl) 11 rfl ?_
  refine x_getS C lk_RX0_9 (hN.sh h_o) (hN.sr (sr_0_2 h_o)) (dkAt dk_X0_clear 7 rfl) 14 rfl ?_
  refine x_iconst C (v := (0 : Int32)) (by decide) (dkAt dk_X0_clear 8 rfl) 15 rfl ?_
  obtain ⟨v3, M4, h20, hf⟩ := cl_inv hf
  refine x_cSv C (c_J7_fill_53178 hN (sh_0_2 h_o) h20) mw_J7_fill_53178 ln_RX0_37 ms_J7_fill_53178 (ro_of (by decide) (by decide) (by decide) (by decide)) rfl rfl (Nat.le_of_ble_eq_true rfl) (dkAt dk_X0_clear 9 rfl) 18 rfl 0 0 rfl rfl ?_
  refine x_aload_n C rfl rfl (dkAt dk_X0_clear 10 rfl) 19 rfl ?_
  refine x_getS C lk_RX0_15 (hN.sh h_o) (hN.sr (sr_0_3 h_o)) (dkAt dk_X0_clear 11 rfl) 22 rfl ?_
  refine x_iconst C (v := (0 : Int32)) (by decide) (dkAt dk_X0_clear 12 rfl) 23 rfl ?_
  obtain ⟨v5, M6, h19, hf⟩ := cl_inv hf
  refine x_cSv C (c_J7_fill_53178 hN (sh_0_3 h_o) h19) mw_J7_fill_53178 ln_RX0_37 ms_J7_fill_53178 (ro_of (by decide) (by decide) (by decide) (by decide)) rfl rfl (Nat.le_of_ble_eq_true rfl) (dkAt dk_X0_clear 13 rfl) 26 rfl 0 0 rfl rfl ?_
  refine x_aload_n C rfl rfl (dkAt dk_X0_clear 14 rfl) 27 rfl ?_
  refine x_getS C lk_RX0_18 (hN.sh h_o) (hN.sr (sr_0_4 h_o)) (dkAt dk_X0_clear 15 rfl) 30 rfl ?_
  refine x_iconst C (v := (0 : Int32)) (by decide) (dkAt dk_X0_clear 16 rfl) 31 rfl ?_
  obtain ⟨v7, M8, h18, hf⟩ := cl_inv hf
  refine x_cSv C (c_J7_fill_53178 hN (sh_0_4 h_o) h18) mw_J7_fill_53178 ln_RX0_37 ms_J7_fill_53178 (ro_of (by decide) (by decide) (by decide) (by decide)) rfl rfl (Nat.le_of_ble_eq_true rfl) (dkAt dk_X0_clear 17 rfl) 34 rfl 0 0 rfl rfl ?_
  refine x_aload_n C rfl rfl (dkAt dk_X0_clear 18 rfl) 35 rfl ?_
  refine x_getS C lk_RX0_21 (hN.sh h_o) (hN.sr (sr_0_5 h_o)) (dkAt dk_X0_clear 19 rfl) 38 rfl ?_
  refine x_iconst C (v := (0 : Int32)) (by decide) (dkAt dk_X0_clear 20 rfl) 39 rfl ?_
  obtain ⟨v9, M10, h17, hf⟩ := cl_inv hf
  refine x_cSv C (c_J7_fill_53178 hN (sh_0_5 h_o) h17) mw_J7_fill_53178 ln_RX0_37 ms_J7_fill_53178 (ro_of (by decide) (by decide) (by decide) (by decide)) rfl rfl (Nat.le_of_ble_eq_true rfl) (dkAt dk_X0_clear 21 rfl) 42 rfl 0 0 rfl rfl ?_
  refine x_aload_n C rfl rfl (dkAt dk_X0_clear 22 rfl) 43 rfl ?_
  refine x_getS C lk_RX0_24 (hN.sh h_o) (hN.sr (sr_0_6 h_o)) (dkAt dk_X0_clear 23 rfl) 46 rfl ?_
  refine x_iconst C (v := (0 : Int32)) (by decide) (dkAt dk_X0_clear 24 rfl) 47 rfl ?_
  obtain ⟨v11, M12, h16, hf⟩ := cl_inv hf
  refine x_cSv C (c_J7_fill_53178 hN (sh_0_6 h_o) h16) mw_J7_fill_53178 ln_RX0_37 ms_J7_fill_53178 (ro_of (by decide) (by decide) (by decide) (by decide)) rfl rfl (Nat.le_of_ble_eq_true rfl) (dkAt dk_X0_clear 25 rfl) 50 rfl 0 0 rfl rfl ?_
  refine x_aload_n C rfl rfl (dkAt dk_X0_clear 26 rfl) 51 rfl ?_
  refine x_getS C lk_RX0_27 (hN.sh h_o) (hN.sr (sr_0_7 h_o)) (dkAt dk_X0_clear 27 rfl) 54 rfl ?_
  refine x_iconst C (v := (0 : Int32)) (by decide) (dkAt dk_X0_clear 28 rfl) 55 rfl ?_
  obtain ⟨v13, M14, h15, hf⟩ := cl_inv hf
  refine x_cSv C (c_J7_fill_53178 hN (sh_0_7 h_o) h15) mw_J7_fill_53178 ln_RX0_37 ms_J7_fill_53178 (ro_of (by decide) (by decide) (by decide) (by decide)) rfl rfl (Nat.le_of_ble_eq_true rfl) (dkAt dk_X0_clear 29 rfl) 58 rfl 0 0 rfl rfl ?_
  exact x_vret C E hf (by decide) (by decide) (dkAt dk_X0_clear 30 rfl)
def f_X11_copyRow (Z : Nat) (M : Mem) (a : Nat) (na : Nat) (b : Nat) (nb : Nat) : Option (Unit × Mem) :=
  bd (if (Int32.ofNat nb) < (Int32.ofNat na) then (Int32.ofNat nb) else (Int32.ofNat na)) (fun v1 => cpI M a na (0 : Int32) b nb (0 : Int32) v1 (fun M2 => some ((), M2)))
set_option maxRecDepth 100000 in
theorem c_X11_copyRow {Γ : WC} (hN : HN Γ) {Z : Nat} {M : Mem} {a : Nat} {na : Nat} {b : Nat} {nb : Nat} {rM : Unit × Mem} (h_a : SH[a]? = some (0, na)) (h_b : SH[b]? = some (0, nb)) (hf : f_X11_copyRow Z M a na b nb = some rM) : Ct Γ yX11_copyRow cX11_copyRow 2 none (rmL 1 0 0) [.ref (wad Γ a), .ref (wad Γ b)] M none rM.2 := by
  refine mkN hN.1 (own := RX11) rfl (by decide) (Nat.le_of_ble_eq_true rfl) (fun X C E => ?_)
  change G Γ X M 0 0 [some (.ref (wad Γ a)), some (.ref (wad Γ b))] [] 0
  unfold f_X11_copyRow at hf
  refine x_aload_n C rfl rfl (dkAt dk_X11_copyRow 0 rfl) 1 rfl ?_
  refine x_iconst C (v := (0 : Int32)) (by decide) (dkAt dk_X11_copyRow 1 rfl) 2 rfl ?_
  refine x_aload_n C rfl rfl (dkAt dk_X11_copyRow 2 rfl) 3 rfl ?_
  refine x_iconst C (v := (0 : Int32)) (by decide) (dkAt dk_X11_copyRow 3 rfl) 4 rfl ?_
  refine x_aload_n C rfl rfl (dkAt dk_X11_copyRow 4 rfl) 5 rfl ?_
  refine x_alen C (by decide) (hN.sh h_a) rfl (dkAt dk_X11_copyRow 5 rfl) 6 rfl ?_
  refine x_aload_n C rfl rfl (dkAt dk_X11_copyRow 6 rfl) 7 rfl ?_
  refine x_alen C (by decide) (hN.sh h_b) rfl (dkAt dk_X11_copyRow 7 rfl) 8 rfl ?_
  refine x_minI C ln_RX11_393 ⟨by decide, by decide, by decide, by decide⟩ (Nat.le_of_ble_eq_true rfl) (dkAt dk_X11_copyRow 8 rfl) 11 rfl hf (fun v1 hf => ?_)
  refine x_copy C (hN.sh h_a) (hN.sh h_b) ln_RX11_398 ⟨by decide, by decide, by decide, by decide⟩ (Nat.le_of_ble_eq_true rfl) (dkAt dk_X11_copyRow 9 rfl) 14 rfl hf (fun M2 hf => ?_)
  exact x_vret C E hf (by decide) (by decide) (dkAt dk_X11_copyRow 10 rfl)
def f_X0_copyFrom (Z : Nat) (M : Mem) (o : Nat) (o2 : Nat) : Option (Unit × Mem) :=
  bd (gI M o2 0) (fun v1 => bd (sI M o 0 v1) (fun M2 => bd (gI M2 o2 1) (fun v3 => bd (sI M2 o 1 v3) (fun M4 => cl (f_X11_copyRow Z M4 (o2 + 1) 6 (o + 1) 6) (fun v5 M6 => cl (f_X11_copyRow Z M6 (o2 + 2) 18 (o + 2) 18) (fun v7 M8 => cl (f_X11_copyRow Z M8 (o2 + 3) 54 (o + 3) 54) (fun v9 M10 => cl (f_X11_copyRow Z M10 (o2 + 4) 108 (o + 4) 108) (fun v11 M12 => cl (f_X11_copyRow Z M12 (o2 + 5) 108 (o + 5) 108) (fun v13 M14 => cl (f_X11_copyRow Z M14 (o2 + 6) 18 (o + 6) 18) (fun v15 M16 => some ((), M16)))))))))))
set_option maxRecDepth 100000 in
theorem c_X0_copyFrom {Γ : WC} (hN : HN Γ) {Z : Nat} {M : Mem} {o : Nat} {o2 : Nat} {rM : Unit × Mem} (h_o : SH[o]? = some (6, 8)) (h_o2 : SH[o2]? = some (6, 8)) (hf : f_X0_copyFrom Z M o o2 = some rM) : Ct Γ yX0_copyFrom cX0_copyFrom 2 none (rmL 2 0 0) [.ref (wad Γ o), .ref (wad Γ o2)] M none rM.2 := by
  refine mkN hN.1 (own := RX0) rfl (by decide) (Nat.le_of_ble_eq_true rfl) (fun X C E => ?_)
  change G Γ X M 0 0 [some (.ref (wad Γ o)), some (.ref (wad Γ o2))] [] 0
  unfold f_X0_copyFrom at hf
  refine x_aload_n C rfl rfl (dkAt dk_X0_copyFrom 0 rfl) 1 rfl ?_
  refine x_aload_n C rfl rfl (dkAt dk_X0_copyFrom 1 rfl) 2 rfl ?_
  refine x_getI C lk_RX0_30 (hN.sh h_o2) (dkAt dk_X0_copyFrom 2 rfl) 5 rfl hf (fun v1 hf => ?_)
  refine x_putI C pk_RX0_30 ⟨_, rfl⟩ (hN.sh h_o) (dkAt dk_X0_copyFrom 3 rfl) 8 rfl hf (fun M2 hf => ?_)
  refine x_aload_n C rfl rfl (dkAt dk_X0_copyFrom 4 rfl) 9 rfl ?_
  refine x_aload_n C rfl rfl (dkAt dk_X0_copyFrom 5 rfl) 10 rfl ?_
  refine x_getI C lk_RX0_34 (hN.sh h_o2) (dkAt dk_X0_copyFrom 6 rfl) 13 rfl hf (fun v3 hf => ?_)
  refine x_putI C pk_RX0_34 ⟨_, rfl⟩ (hN.sh h_o) (dkAt dk_X0_copyFrom 7 rfl) 16 rfl hf (fun M4 hf => ?_)
  refine x_aload_n C rfl rfl (dkAt dk_X0_copyFrom 8 rfl) 17 rfl ?_
  refine x_getS C lk_RX0_9 (hN.sh h_o2) (hN.sr (sr_0_2 h_o2)) (dkAt dk_X0_copyFrom 9 rfl) 20 rfl ?_
  refine x_aload_n C rfl rfl (dkAt dk_X0_copyFrom 10 rfl) 21 rfl ?_
  refine x_getS C lk_RX0_9 (hN.sh h_o) (hN.sr (sr_0_2 h_o)) (dkAt dk_X0_copyFrom 11 rfl) 24 rfl ?_
  obtain ⟨v5, M6, h22, hf⟩ := cl_inv hf
  refine x_cNv C (c_X11_copyRow hN (sh_0_2 h_o2) (sh_0_2 h_o) h22) mw_X11_copyRow ln_RX0_43 ms_X11_copyRow (ro_of (by decide) (by decide) (by decide) (by decide)) rfl rfl (Nat.le_of_ble_eq_true rfl) (dkAt dk_X0_copyFrom 12 rfl) 27 rfl 0 0 rfl rfl ?_
  refine x_aload_n C rfl rfl (dkAt dk_X0_copyFrom 13 rfl) 28 rfl ?_
  refine x_getS C lk_RX0_15 (hN.sh h_o2) (hN.sr (sr_0_3 h_o2)) (dkAt dk_X0_copyFrom 14 rfl) 31 rfl ?_
  refine x_aload_n C rfl rfl (dkAt dk_X0_copyFrom 15 rfl) 32 rfl ?_
  refine x_getS C lk_RX0_15 (hN.sh h_o) (hN.sr (sr_0_3 h_o)) (dkAt dk_X0_copyFrom 16 rfl) 35 rfl ?_
  obtain ⟨v7, M8, h21, hf⟩ := cl_inv hf
  refine x_cNv C (c_X11_copyRow hN (sh_0_3 h_o2) (sh_0_3 h_o) h21) mw_X11_copyRow ln_RX0_43 ms_X11_copyRow (ro_of (by decide) (by decide) (by decide) (by decide)) rfl rfl (Nat.le_of_ble_eq_true rfl) (dkAt dk_X0_copyFrom 17 rfl) 38 rfl 0 0 rfl rfl ?_
  refine x_aload_n C rfl rfl (dkAt dk_X0_copyFrom 18 rfl) 39 rfl ?_
  refine x_getS C lk_RX0_18 (hN.sh h_o2) (hN.sr (sr_0_4 h_o2)) (dkAt dk_X0_copyFrom 19 rfl) 42 rfl ?_
  refine x_aload_n C rfl rfl (dkAt dk_X0_copyFrom 20 rfl) 43 rfl ?_
  refine x_getS C lk_RX0_18 (hN.sh h_o) (hN.sr (sr_0_4 h_o)) (dkAt dk_X0_copyFrom 21 rfl) 46 rfl ?_
  obtain ⟨v9, M10, h20, hf⟩ := cl_inv hf
  refine x_cNv C (c_X11_copyRow hN (sh_0_4 h_o2) (sh_0_4 h_o) h20) mw_X11_copyRow ln_RX0_43 ms_X11_copyRow (ro_of (by decide) (by decide) (by decide) (by decide)) rfl rfl (Nat.le_of_ble_eq_true rfl) (dkAt dk_X0_copyFrom 22 rfl) 49 rfl 0 0 rfl rfl ?_
  refine x_aload_n C rfl rfl (dkAt dk_X0_copyFrom 23 rfl) 50 rfl ?_
  refine x_getS C lk_RX0_21 (hN.sh h_o2) (hN.sr (sr_0_5 h_o2)) (dkAt dk_X0_copyFrom 24 rfl) 53 rfl ?_
  refine x_aload_n C rfl rfl (dkAt dk_X0_copyFrom 25 rfl) 54 rfl ?_
  refine x_getS C lk_RX0_21 (hN.sh h_o) (hN.sr (sr_0_5 h_o)) (dkAt dk_X0_copyFrom 26 rfl) 57 rfl ?_
  obtain ⟨v11, M12, h19, hf⟩ := cl_inv hf
  refine x_cNv C (c_X11_copyRow hN (sh_0_5 h_o2) (sh_0_5 h_o) h19) mw_X11_copyRow ln_RX0_43 ms_X11_copyRow (ro_of (by decide) (by decide) (by decide) (by decide)) rfl rfl (Nat.le_of_ble_eq_true rfl) (dkAt dk_X0_copyFrom 27 rfl) 60 rfl 0 0 rfl rfl ?_
  refine x_aload_n C rfl rfl (dkAt dk_X0_copyFrom 28 rfl) 61 rfl ?_
  refine x_getS C lk_RX0_24 (hN.sh h_o2) (hN.sr (sr_0_6 h_o2)) (dkAt dk_X0_copyFrom 29 rfl) 64 rfl ?_
  refine x_aload_n C rfl rfl (dkAt dk_X0_copyFrom 30 rfl) 65 rfl ?_
  refine x_getS C lk_RX0_24 (hN.sh h_o) (hN.sr (sr_0_6 h_o)) (dkAt dk_X0_copyFrom 31 rfl) 68 rfl ?_
  obtain ⟨v13, M14, h18, hf⟩ := cl_inv hf
  refine x_cNv C (c_X11_copyRow hN (sh_0_6 h_o2) (sh_0_6 h_o) h18) mw_X11_copyRow ln_RX0_43 ms_X11_copyRow (ro_of (by decide) (by decide) (by decide) (by decide)) rfl rfl (Nat.le_of_ble_eq_true rfl) (dkAt dk_X0_copyFrom 32 rfl) 71 rfl 0 0 rfl rfl ?_
  refine x_aload_n C rfl rfl (dkAt dk_X0_copyFrom 33 rfl) 72 rfl ?_
  refine x_getS C lk_RX0_27 (hN.sh h_o2) (hN.sr (sr_0_7 h_o2)) (dkAt dk_X0_copyFrom 34 rfl) 75 rfl ?_
  refine x_aload_n C rfl rfl (dkAt dk_X0_copyFrom 35 rfl) 76 rfl ?_
  refine x_getS C lk_RX0_27 (hN.sh h_o) (hN.sr (sr_0_7 h_o)) (dkAt dk_X0_copyFrom 36 rfl) 79 rfl ?_
  obtain ⟨v15, M16, h17, hf⟩ := cl_inv hf
  refine x_cNv C (c_X11_copyRow hN (sh_0_7 h_o2) (sh_0_7 h_o) h17) mw_X11_copyRow ln_RX0_43 ms_X11_copyRow (ro_of (by decide) (by decide) (by decide) (by decide)) rfl rfl (Nat.le_of_ble_eq_true rfl) (dkAt dk_X0_copyFrom 37 rfl) 82 rfl 0 0 rfl rfl ?_
  exact x_vret C E hf (by decide) (by decide) (dkAt dk_X0_copyFrom 38 rfl)
def f_X0_amountOf (Z : Nat) (M : Mem) (o : Nat) (p0 : Int32) (p1 : Int32) : Option (Int32 × Mem) :=
  rdI M (o + 3) 54 ((p0 * (3 : Int32)) + p1) (fun v1 => some (v1, M))
set_option maxRecDepth 100000 in
theorem c_X0_amountOf {Γ : WC} (hN : HN Γ) {Z : Nat} {M : Mem} {o : Nat} {p0 : Int32} {p1 : Int32} {rM : Int32 × Mem} (h_o : SH[o]? = some (6, 8)) (hf : f_X0_amountOf Z M o p0 p1 = some rM) : Ct Γ yX0_amountOf cX0_amountOf 3 (some .int) (rmL 0 0 0) [.ref (wad Γ o), .int p0, .int p1] M (some (.int rM.1)) rM.2 := by
  refine mkN hN.1 (own := RX0) rfl (by decide) (Nat.le_of_ble_eq_true rfl) (fun X C E => ?_)
  change G Γ X M 0 0 [some (.ref (wad Γ o)), some (.int p0), some (.int p1)] [] 0
  unfold f_X0_amountOf at hf
  refine x_aload_n C rfl rfl (dkAt dk_X0_amountOf 0 rfl) 1 rfl ?_
  refine x_getS C lk_RX0_18 (hN.sh h_o) (hN.sr (sr_0_4 h_o)) (dkAt dk_X0_amountOf 1 rfl) 4 rfl ?_
  refine x_iload_n C rfl rfl (dkAt dk_X0_amountOf 2 rfl) 5 rfl ?_
  refine x_iconst C (v := (3 : Int32)) (by decide) (dkAt dk_X0_amountOf 3 rfl) 6 rfl ?_
  refine x_imul C (dkAt dk_X0_amountOf 4 rfl) 7 rfl ?_
  refine x_iload_n C rfl rfl (dkAt dk_X0_amountOf 5 rfl) 8 rfl ?_
  refine x_iadd C (dkAt dk_X0_amountOf 6 rfl) 9 rfl ?_
  refine x_iald C (hN.sh (sh_0_4 h_o)) (dkAt dk_X0_amountOf 7 rfl) 10 rfl hf (fun v1 hf => ?_)
  exact x_iret C E hf (by decide) (by decide) (dkAt dk_X0_amountOf 8 rfl)
def f_X0_percentTo (Z : Nat) (M : Mem) (o : Nat) (p0 : Int32) (p1 : Int32) : Option (Int32 × Mem) :=
  rdI M (o + 4) 108 ((p0 * (6 : Int32)) + p1) (fun v1 => some (v1, M))
set_option maxRecDepth 100000 in
theorem c_X0_percentTo {Γ : WC} (hN : HN Γ) {Z : Nat} {M : Mem} {o : Nat} {p0 : Int32} {p1 : Int32} {rM : Int32 × Mem} (h_o : SH[o]? = some (6, 8)) (hf : f_X0_percentTo Z M o p0 p1 = some rM) : Ct Γ yX0_percentTo cX0_percentTo 3 (some .int) (rmL 0 0 0) [.ref (wad Γ o), .int p0, .int p1] M (some (.int rM.1)) rM.2 := by
  refine mkN hN.1 (own := RX0) rfl (by decide) (Nat.le_of_ble_eq_true rfl) (fun X C E => ?_)
  change G Γ X M 0 0 [some (.ref (wad Γ o)), some (.int p0), some (.int p1)] [] 0
  unfold f_X0_percentTo at hf
  refine x_aload_n C rfl rfl (dkAt dk_X0_percentTo 0 rfl) 1 rfl ?_
  refine x_getS C lk_RX0_21 (hN.sh h_o) (hN.sr (sr_0_5 h_o)) (dkAt dk_X0_percentTo 1 rfl) 4 rfl ?_
  refine x_iload_n C rfl rfl (dkAt dk_X0_percentTo 2 rfl) 5 rfl ?_
  refine x_bipush C (v := (6 : Int32)) (by decide) (dkAt dk_X0_percentTo 3 rfl) 7 rfl ?_
  refine x_imul C (dkAt dk_X0_percentTo 4 rfl) 8 rfl ?_
  refine x_iload_n C rfl rfl (dkAt dk_X0_percentTo 5 rfl) 9 rfl ?_
  refine x_iadd C (dkAt dk_X0_percentTo 6 rfl) 10 rfl ?_
  refine x_iald C (hN.sh (sh_0_5 h_o)) (dkAt dk_X0_percentTo 7 rfl) 11 rfl hf (fun v1 hf => ?_)
  exact x_iret C E hf (by decide) (by decide) (dkAt dk_X0_percentTo 8 rfl)
def f_X0_tell (Z : Nat) (M : Mem) (o : Nat) (p0 : Int32) (p1 : Int32) (p2 : Int32) : Option (Unit × Mem) :=
  rdI M (o + 6) 18 p0 (fun v1 => (if (6 : Int32) ≤ v1 then some ((), M) else rdI M (o + 6) 18 p0 (fun v2 => wrI M (o + 5) 108 ((p0 * (6 : Int32)) + v2) p1 (fun M3 => rdI M3 (o + 6) 18 p0 (fun v4 => wrI M3 (o + 6) 18 p0 (v4 + (1 : Int32)) (fun M5 => wrI M5 (o + 4) 108 ((p0 * (6 : Int32)) + p1) p2 (fun M6 => some ((), M6))))))))
set_option maxRecDepth 100000 in
theorem c_X0_tell {Γ : WC} (hN : HN Γ) {Z : Nat} {M : Mem} {o : Nat} {p0 : Int32} {p1 : Int32} {p2 : Int32} {rM : Unit × Mem} (h_o : SH[o]? = some (6, 8)) (hf : f_X0_tell Z M o p0 p1 p2 = some rM) : Ct Γ yX0_tell cX0_tell 4 none (rmL 0 0 0) [.ref (wad Γ o), .int p0, .int p1, .int p2] M none rM.2 := by
  refine mkN hN.1 (own := RX0) rfl (by decide) (Nat.le_of_ble_eq_true rfl) (fun X C E => ?_)
  change G Γ X M 0 0 [some (.ref (wad Γ o)), some (.int p0), some (.int p1), some (.int p2)] [] 0
  unfold f_X0_tell at hf
  refine x_aload_n C rfl rfl (dkAt dk_X0_tell 0 rfl) 1 rfl ?_
  refine x_getS C lk_RX0_27 (hN.sh h_o) (hN.sr (sr_0_7 h_o)) (dkAt dk_X0_tell 1 rfl) 4 rfl ?_
  refine x_iload_n C rfl rfl (dkAt dk_X0_tell 2 rfl) 5 rfl ?_
  refine x_iald C (hN.sh (sh_0_7 h_o)) (dkAt dk_X0_tell 3 rfl) 6 rfl hf (fun v1 hf => ?_)
  refine x_bipush C (v := (6 : Int32)) (by decide) (dkAt dk_X0_tell 4 rfl) 8 rfl ?_
  refine x_icmp_ge C 50 (dkAt dk_X0_tell 5 rfl) 11 rfl (by decide) hf (fun hf => ?_) (fun hf => ?_)
  · exact x_vret C E hf (by decide) (by decide) (dkAt dk_X0_tell 35 rfl)
  · refine x_aload_n C rfl rfl (dkAt dk_X0_tell 6 rfl) 12 rfl ?_
    refine x_getS C lk_RX0_24 (hN.sh h_o) (hN.sr (sr_0_6 h_o)) (dkAt dk_X0_tell 7 rfl) 15 rfl ?_
    refine x_iload_n C rfl rfl (dkAt dk_X0_tell 8 rfl) 16 rfl ?_
    refine x_bipush C (v := (6 : Int32)) (by decide) (dkAt dk_X0_tell 9 rfl) 18 rfl ?_
    refine x_imul C (dkAt dk_X0_tell 10 rfl) 19 rfl ?_
    refine x_aload_n C rfl rfl (dkAt dk_X0_tell 11 rfl) 20 rfl ?_
    refine x_getS C lk_RX0_27 (hN.sh h_o) (hN.sr (sr_0_7 h_o)) (dkAt dk_X0_tell 12 rfl) 23 rfl ?_
    refine x_iload_n C rfl rfl (dkAt dk_X0_tell 13 rfl) 24 rfl ?_
    refine x_iald C (hN.sh (sh_0_7 h_o)) (dkAt dk_X0_tell 14 rfl) 25 rfl hf (fun v2 hf => ?_)
    refine x_iadd C (dkAt dk_X0_tell 15 rfl) 26 rfl ?_
    refine x_iload_n C rfl rfl (dkAt dk_X0_tell 16 rfl) 27 rfl ?_
    refine x_iast C (hN.sh (sh_0_6 h_o)) (dkAt dk_X0_tell 17 rfl) 28 rfl hf (fun M3 hf => ?_)
    refine x_aload_n C rfl rfl (dkAt dk_X0_tell 18 rfl) 29 rfl ?_
    refine x_getS C lk_RX0_27 (hN.sh h_o) (hN.sr (sr_0_7 h_o)) (dkAt dk_X0_tell 19 rfl) 32 rfl ?_
    refine x_iload_n C rfl rfl (dkAt dk_X0_tell 20 rfl) 33 rfl ?_
    refine x_dup2 C rfl rfl (dkAt dk_X0_tell 21 rfl) 34 rfl ?_
    refine x_iald C (hN.sh (sh_0_7 h_o)) (dkAt dk_X0_tell 22 rfl) 35 rfl hf (fun v4 hf => ?_)
    refine x_iconst C (v := (1 : Int32)) (by decide) (dkAt dk_X0_tell 23 rfl) 36 rfl ?_
    refine x_iadd C (dkAt dk_X0_tell 24 rfl) 37 rfl ?_
    refine x_iast C (hN.sh (sh_0_7 h_o)) (dkAt dk_X0_tell 25 rfl) 38 rfl hf (fun M5 hf => ?_)
    refine x_aload_n C rfl rfl (dkAt dk_X0_tell 26 rfl) 39 rfl ?_
    refine x_getS C lk_RX0_21 (hN.sh h_o) (hN.sr (sr_0_5 h_o)) (dkAt dk_X0_tell 27 rfl) 42 rfl ?_
    refine x_iload_n C rfl rfl (dkAt dk_X0_tell 28 rfl) 43 rfl ?_
    refine x_bipush C (v := (6 : Int32)) (by decide) (dkAt dk_X0_tell 29 rfl) 45 rfl ?_
    refine x_imul C (dkAt dk_X0_tell 30 rfl) 46 rfl ?_
    refine x_iload_n C rfl rfl (dkAt dk_X0_tell 31 rfl) 47 rfl ?_
    refine x_iadd C (dkAt dk_X0_tell 32 rfl) 48 rfl ?_
    refine x_iload_n C rfl rfl (dkAt dk_X0_tell 33 rfl) 49 rfl ?_
    refine x_iast C (hN.sh (sh_0_5 h_o)) (dkAt dk_X0_tell 34 rfl) 50 rfl hf (fun M6 hf => ?_)
    exact x_vret C E hf (by decide) (by decide) (dkAt dk_X0_tell 35 rfl)
def f_X0_countActions_L4 (Z : Nat) (M : Mem) (o : Nat) : Nat → Int32 → Int32 → Option (Int32 × Mem)
  | 0, _, _ => none
  | n + 1, x1, x2 => bd (gI M o 0) (fun v3 => (if v3 ≤ x2 then some (x1, M) else rdI M (o + 1) 6 x2 (fun v4 => f_X0_countActions_L4 Z M o n (x1 + v4) (x2 + (1 : Int32)))))
def f_X0_countActions (Z : Nat) (M : Mem) (o : Nat) : Option (Int32 × Mem) :=
  f_X0_countActions_L4 Z M o Z (0 : Int32) (0 : Int32)
set_option maxRecDepth 100000 in
theorem l_X0_countActions_L4 {Γ : WC} {X : MX} (hN : HN Γ) (C : CX Γ X cX0_countActions 3 RX0 (some .int) (rmL 0 0 0)) {rM : Int32 × Mem} (E : EndN Γ X (some (.int rM.1)) rM.2 0 0) {Z : Nat} {M : Mem} {o : Nat} (h_o : SH[o]? = some (6, 8)) : ∀ (n : Nat) (x1 : Int32) (x2 : Int32), f_X0_countActions_L4 Z M o n x1 x2 = some rM → G Γ X M 0 0 [some (.ref (wad Γ o)), some (.int x1), some (.int x2)] [] 4 := by
  intro n
  induction n with
  | zero =>
    intro x1 x2 hf
    have hf0 : (none : Option _) = some rM := hf
    cases hf0
  | succ n ih =>
    intro x1 x2 hf
    rw [f_X0_countActions_L4] at hf
    refine x_iload_n C rfl rfl (dkAt dk_X0_countActions 4 rfl) 5 rfl ?_
    refine x_aload_n C rfl rfl (dkAt dk_X0_countActions 5 rfl) 6 rfl ?_
    refine x_getI C lk_RX0_30 (hN.sh h_o) (dkAt dk_X0_countActions 6 rfl) 9 rfl hf (fun v3 hf => ?_)
    refine x_icmp_ge C 27 (dkAt dk_X0_countActions 7 rfl) 12 rfl (by decide) hf (fun hf => ?_) (fun hf => ?_)
    · refine x_iload_n C rfl rfl (dkAt dk_X0_countActions 17 rfl) 28 rfl ?_
      exact x_iret C E hf (by decide) (by decide) (dkAt dk_X0_countActions 18 rfl)
    · refine x_iload_n C rfl rfl (dkAt dk_X0_countActions 8 rfl) 13 rfl ?_
      refine x_aload_n C rfl rfl (dkAt dk_X0_countActions 9 rfl) 14 rfl ?_
      refine x_getS C lk_RX0_9 (hN.sh h_o) (hN.sr (sr_0_2 h_o)) (dkAt dk_X0_countActions 10 rfl) 17 rfl ?_
      refine x_iload_n C rfl rfl (dkAt dk_X0_countActions 11 rfl) 18 rfl ?_
      refine x_iald C (hN.sh (sh_0_2 h_o)) (dkAt dk_X0_countActions 12 rfl) 19 rfl hf (fun v4 hf => ?_)
      refine x_iadd C (dkAt dk_X0_countActions 13 rfl) 20 rfl ?_
      refine x_istore_n C (L1 := [some (.ref (wad Γ o)), some (.int (x1 + v4)), some (.int x2)]) (dkAt dk_X0_countActions 14 rfl) 21 rfl rfl (by decide) rfl ?_
      refine x_iinc C (v := (x2 + (1 : Int32))) (L1 := [some (.ref (wad Γ o)), some (.int (x1 + v4)), some (.int (x2 + (1 : Int32)))]) (dkAt dk_X0_countActions 15 rfl) 24 rfl rfl rfl (by decide) rfl ?_
      refine x_goto C 4 (dkAt dk_X0_countActions 16 rfl) (by decide) ?_
      exact G.weak (L := [some (.ref (wad Γ o)), some (.int (x1 + v4)), some (.int (x2 + (1 : Int32)))]) ⟨rfl, rfl, rfl, trivial⟩ (ih _ _ hf)
set_option maxRecDepth 100000 in
theorem c_X0_countActions {Γ : WC} (hN : HN Γ) {Z : Nat} {M : Mem} {o : Nat} {rM : Int32 × Mem} (h_o : SH[o]? = some (6, 8)) (hf : f_X0_countActions Z M o = some rM) : Ct Γ yX0_countActions cX0_countActions 3 (some .int) (rmL 0 0 0) [.ref (wad Γ o)] M (some (.int rM.1)) rM.2 := by
  refine mkN hN.1 (own := RX0) rfl (by decide) (Nat.le_of_ble_eq_true rfl) (fun X C E => ?_)
  change G Γ X M 0 0 [some (.ref (wad Γ o))] [] 0
  unfold f_X0_countActions at hf
  refine x_iconst C (v := (0 : Int32)) (by decide) (dkAt dk_X0_countActions 0 rfl) 1 rfl ?_
  refine x_istore_n C (L1 := [some (.ref (wad Γ o)), some (.int (0 : Int32))]) (dkAt dk_X0_countActions 1 rfl) 2 rfl rfl (by decide) rfl ?_
  refine x_iconst C (v := (0 : Int32)) (by decide) (dkAt dk_X0_countActions 2 rfl) 3 rfl ?_
  refine x_istore_n C (L1 := [some (.ref (wad Γ o)), some (.int (0 : Int32)), some (.int (0 : Int32))]) (dkAt dk_X0_countActions 3 rfl) 4 rfl rfl (by decide) rfl ?_
  refine G.weak (L := [some (.ref (wad Γ o)), some (.int (0 : Int32)), some (.int (0 : Int32))]) ⟨rfl, rfl, rfl, trivial⟩ ?_
  refine l_X0_countActions_L4 hN C E h_o Z _ _ hf
def f_J7_fill_d0a16_L6 (Z : Nat) (a : Nat) (na : Nat) (p1 : Int64) : Nat → Int32 → Mem → Option (Unit × Mem)
  | 0, _, _ => none
  | n + 1, x1, M2 => (if (Int32.ofNat na) ≤ x1 then some ((), M2) else wrL M2 a na x1 p1 (fun M3 => f_J7_fill_d0a16_L6 Z a na p1 n (x1 + (1 : Int32)) M3))
def f_J7_fill_d0a16 (Z : Nat) (M : Mem) (a : Nat) (na : Nat) (p1 : Int64) : Option (Unit × Mem) :=
  f_J7_fill_d0a16_L6 Z a na p1 Z (0 : Int32) M
set_option maxRecDepth 100000 in
theorem l_J7_fill_d0a16_L6 {Γ : WC} {X : MX} (hN : HN Γ) (C : CX Γ X cJ7_fill_d0a16 5 RJ7 none (rmL 0 0 0)) {rM : Unit × Mem} (E : EndN Γ X none rM.2 0 0) {Z : Nat} {a : Nat} {na : Nat} {p1 : Int64} (h_a : SH[a]? = some (1, na)) : ∀ (n : Nat) (x1 : Int32) (M2 : Mem), f_J7_fill_d0a16_L6 Z a na p1 n x1 M2 = some rM → G Γ X M2 0 0 [some (.ref (wad Γ a)), some (.long p1), none, some (.int x1), some (.int (Int32.ofNat na))] [] 6 := by
  intro n
  induction n with
  | zero =>
    intro x1 M2 hf
    have hf0 : (none : Option _) = some rM := hf
    cases hf0
  | succ n ih =>
    intro x1 M2 hf
    rw [f_J7_fill_d0a16_L6] at hf
    refine x_iload_n C rfl rfl (dkAt dk_J7_fill_d0a16 5 rfl) 7 rfl ?_
    refine x_iload C rfl (dkAt dk_J7_fill_d0a16 6 rfl) 9 rfl ?_
    refine x_icmp_ge C 22 (dkAt dk_J7_fill_d0a16 7 rfl) 12 rfl (by decide) hf (fun hf => ?_) (fun hf => ?_)
    · exact x_vret C E hf (by decide) (by decide) (dkAt dk_J7_fill_d0a16 14 rfl)
    · refine x_aload_n C rfl rfl (dkAt dk_J7_fill_d0a16 8 rfl) 13 rfl ?_
      refine x_iload_n C rfl rfl (dkAt dk_J7_fill_d0a16 9 rfl) 14 rfl ?_
      refine x_lload_n C rfl rfl (dkAt dk_J7_fill_d0a16 10 rfl) 15 rfl ?_
      refine x_last C (hN.sh h_a) (dkAt dk_J7_fill_d0a16 11 rfl) 16 rfl hf (fun M3 hf => ?_)
      refine x_iinc C (v := (x1 + (1 : Int32))) (L1 := [some (.ref (wad Γ a)), some (.long p1), none, some (.int (x1 + (1 : Int32))), some (.int (Int32.ofNat na))]) (dkAt dk_J7_fill_d0a16 12 rfl) 19 rfl rfl rfl (by decide) rfl ?_
      refine x_goto C 6 (dkAt dk_J7_fill_d0a16 13 rfl) (by decide) ?_
      exact G.weak (L := [some (.ref (wad Γ a)), some (.long p1), none, some (.int (x1 + (1 : Int32))), some (.int (Int32.ofNat na))]) ⟨rfl, rfl, rfl, rfl, trivial⟩ (ih _ _ hf)
set_option maxRecDepth 100000 in
theorem c_J7_fill_d0a16 {Γ : WC} (hN : HN Γ) {Z : Nat} {M : Mem} {a : Nat} {na : Nat} {p1 : Int64} {rM : Unit × Mem} (h_a : SH[a]? = some (1, na)) (hf : f_J7_fill_d0a16 Z M a na p1 = some rM) : Ct Γ yJ7_fill_d0a16 cJ7_fill_d0a16 5 none (rmL 0 0 0) [.ref (wad Γ a), .long p1] M none rM.2 := by
  refine mkN hN.1 (own := RJ7) rfl (by decide) (Nat.le_of_ble_eq_true rfl) (fun X C E => ?_)
  change G Γ X M 0 0 [some (.ref (wad Γ a)), some (.long p1), none] [] 0
  unfold f_J7_fill_d0a16 at hf
  refine x_iconst C (v := (0 : Int32)) (by decide) (dkAt dk_J7_fill_d0a16 0 rfl) 1 rfl ?_
  refine x_istore_n C (L1 := [some (.ref (wad Γ a)), some (.long p1), none, some (.int (0 : Int32))]) (dkAt dk_J7_fill_d0a16 1 rfl) 2 rfl rfl (by decide) rfl ?_
  refine x_aload_n C rfl rfl (dkAt dk_J7_fill_d0a16 2 rfl) 3 rfl ?_
  refine x_alen C (by decide) (hN.sh h_a) rfl (dkAt dk_J7_fill_d0a16 3 rfl) 4 rfl ?_
  refine x_istore C (L1 := [some (.ref (wad Γ a)), some (.long p1), none, some (.int (0 : Int32)), some (.int (Int32.ofNat na))]) (dkAt dk_J7_fill_d0a16 4 rfl) 6 rfl (by decide) rfl ?_
  refine G.weak (L := [some (.ref (wad Γ a)), some (.long p1), none, some (.int (0 : Int32)), some (.int (Int32.ofNat na))]) ⟨rfl, rfl, rfl, rfl, trivial⟩ ?_
  refine l_J7_fill_d0a16_L6 hN C E h_a Z _ _ hf
def f_X11_rowOf (Z : Nat) (M : Mem) (p0 : Int32) (p1 : Int32) : Option (Int32 × Mem) :=
  some (((p0 * (3 : Int32)) + p1), M)
set_option maxRecDepth 100000 in
theorem c_X11_rowOf {Γ : WC} (hN : HN Γ) {Z : Nat} {M : Mem} {p0 : Int32} {p1 : Int32} {rM : Int32 × Mem}  (hf : f_X11_rowOf Z M p0 p1 = some rM) : Ct Γ yX11_rowOf cX11_rowOf 2 (some .int) (rmL 0 0 0) [.int p0, .int p1] M (some (.int rM.1)) rM.2 := by
  refine mkN hN.1 (own := RX11) rfl (by decide) (Nat.le_of_ble_eq_true rfl) (fun X C E => ?_)
  change G Γ X M 0 0 [some (.int p0), some (.int p1)] [] 0
  unfold f_X11_rowOf at hf
  refine x_iload_n C rfl rfl (dkAt dk_X11_rowOf 0 rfl) 1 rfl ?_
  refine x_iconst C (v := (3 : Int32)) (by decide) (dkAt dk_X11_rowOf 1 rfl) 2 rfl ?_
  refine x_imul C (dkAt dk_X11_rowOf 2 rfl) 3 rfl ?_
  refine x_iload_n C rfl rfl (dkAt dk_X11_rowOf 3 rfl) 4 rfl ?_
  refine x_iadd C (dkAt dk_X11_rowOf 4 rfl) 5 rfl ?_
  exact x_iret C E hf (by decide) (by decide) (dkAt dk_X11_rowOf 5 rfl)
def f_X1_addParts_L3 (Z : Nat) (p0 : Int32) (p1 : Int32) (p2 : Int32) : Nat → Int32 → Mem → Option (Unit × Mem)
  | 0, _, _ => none
  | n + 1, x1, M2 => bd (gI M2 (3) 0) (fun v3 => (if v3 ≤ x1 then some ((), M2) else rdL M2 17 36 ((p0 * (6 : Int32)) + x1) (fun v4 => cl (f_X0_percentTo Z M2 (3) p1 x1) (fun v5 M6 => wrL M6 17 36 ((p0 * (6 : Int32)) + x1) (v4 + (p2 * v5).toInt64) (fun M7 => f_X1_addParts_L3 Z p0 p1 p2 n (x1 + (1 : Int32)) M7)))))
def f_X1_addParts (Z : Nat) (M : Mem) (p0 : Int32) (p1 : Int32) (p2 : Int32) : Option (Unit × Mem) :=
  f_X1_addParts_L3 Z p0 p1 p2 Z (0 : Int32) M
set_option maxRecDepth 100000 in
theorem l_X1_addParts_L3 {Γ : WC} {X : MX} (hN : HN Γ) (C : CX Γ X cX1_addParts 5 RX1 none (rmL 1 0 0)) {rM : Unit × Mem} (E : EndN Γ X none rM.2 0 0) {Z : Nat} {p0 : Int32} {p1 : Int32} {p2 : Int32} : ∀ (n : Nat) (x1 : Int32) (M2 : Mem), f_X1_addParts_L3 Z p0 p1 p2 n x1 M2 = some rM → G Γ X M2 0 0 [some (.ref (wad Γ 16)), some (.int p0), some (.int p1), some (.int p2), some (.int x1)] [] 3 := by
  intro n
  induction n with
  | zero =>
    intro x1 M2 hf
    have hf0 : (none : Option _) = some rM := hf
    cases hf0
  | succ n ih =>
    intro x1 M2 hf
    rw [f_X1_addParts_L3] at hf
    refine x_iload C rfl (dkAt dk_X1_addParts 2 rfl) 5 rfl ?_
    refine x_aload_n C rfl rfl (dkAt dk_X1_addParts 3 rfl) 6 rfl ?_
    refine x_getS C lk_RX1_24 (hN.sh sh16) (hN.sr sr16_0) (dkAt dk_X1_addParts 4 rfl) 9 rfl ?_
    refine x_getI C lk_RX1_49 (hN.sh sh3) (dkAt dk_X1_addParts 5 rfl) 12 rfl hf (fun v3 hf => ?_)
    refine x_icmp_ge C 49 (dkAt dk_X1_addParts 6 rfl) 15 rfl (by decide) hf (fun hf => ?_) (fun hf => ?_)
    · exact x_vret C E hf (by decide) (by decide) (dkAt dk_X1_addParts 28 rfl)
    · refine x_aload_n C rfl rfl (dkAt dk_X1_addParts 7 rfl) 16 rfl ?_
      refine x_getS C lk_RX1_9 (hN.sh sh16) (hN.sr sr16_3) (dkAt dk_X1_addParts 8 rfl) 19 rfl ?_
      refine x_iload_n C rfl rfl (dkAt dk_X1_addParts 9 rfl) 20 rfl ?_
      refine x_bipush C (v := (6 : Int32)) (by decide) (dkAt dk_X1_addParts 10 rfl) 22 rfl ?_
      refine x_imul C (dkAt dk_X1_addParts 11 rfl) 23 rfl ?_
      refine x_iload C rfl (dkAt dk_X1_addParts 12 rfl) 25 rfl ?_
      refine x_iadd C (dkAt dk_X1_addParts 13 rfl) 26 rfl ?_
      refine x_dup2 C rfl rfl (dkAt dk_X1_addParts 14 rfl) 27 rfl ?_
      refine x_lald C (hN.sh sh17) (dkAt dk_X1_addParts 15 rfl) 28 rfl hf (fun v4 hf => ?_)
      refine x_iload_n C rfl rfl (dkAt dk_X1_addParts 16 rfl) 29 rfl ?_
      refine x_aload_n C rfl rfl (dkAt dk_X1_addParts 17 rfl) 30 rfl ?_
      refine x_getS C lk_RX1_24 (hN.sh sh16) (hN.sr sr16_0) (dkAt dk_X1_addParts 18 rfl) 33 rfl ?_
      refine x_iload_n C rfl rfl (dkAt dk_X1_addParts 19 rfl) 34 rfl ?_
      refine x_iload C rfl (dkAt dk_X1_addParts 20 rfl) 36 rfl ?_
      obtain ⟨v5, M6, h8, hf⟩ := cl_inv hf
      refine x_cVi C (c_X0_percentTo hN sh3 h8) mw_X0_percentTo ln_RX1_66 mi_X0_percentTo (hN.rc (ci := 0) sh3 rc0) (ro_of (by decide) (by decide) (by decide) (by decide)) rfl rfl (Nat.le_of_ble_eq_true rfl) (dkAt dk_X1_addParts 21 rfl) 39 rfl 0 0 rfl rfl ?_
      refine x_imul C (dkAt dk_X1_addParts 22 rfl) 40 rfl ?_
      refine x_i2l C (dkAt dk_X1_addParts 23 rfl) 41 rfl ?_
      refine x_ladd C (dkAt dk_X1_addParts 24 rfl) 42 rfl ?_
      refine x_last C (hN.sh sh17) (dkAt dk_X1_addParts 25 rfl) 43 rfl hf (fun M7 hf => ?_)
      refine x_iinc C (v := (x1 + (1 : Int32))) (L1 := [some (.ref (wad Γ 16)), some (.int p0), some (.int p1), some (.int p2), some (.int (x1 + (1 : Int32)))]) (dkAt dk_X1_addParts 26 rfl) 46 rfl rfl rfl (by decide) rfl ?_
      refine x_goto C 3 (dkAt dk_X1_addParts 27 rfl) (by decide) ?_
      exact G.weak (L := [some (.ref (wad Γ 16)), some (.int p0), some (.int p1), some (.int p2), some (.int (x1 + (1 : Int32)))]) ⟨rfl, rfl, rfl, rfl, rfl, trivial⟩ (ih _ _ hf)
set_option maxRecDepth 100000 in
theorem c_X1_addParts {Γ : WC} (hN : HN Γ) {Z : Nat} {M : Mem} {p0 : Int32} {p1 : Int32} {p2 : Int32} {rM : Unit × Mem}  (hf : f_X1_addParts Z M p0 p1 p2 = some rM) : Ct Γ yX1_addParts cX1_addParts 5 none (rmL 1 0 0) [.ref (wad Γ 16), .int p0, .int p1, .int p2] M none rM.2 := by
  refine mkN hN.1 (own := RX1) rfl (by decide) (Nat.le_of_ble_eq_true rfl) (fun X C E => ?_)
  change G Γ X M 0 0 [some (.ref (wad Γ 16)), some (.int p0), some (.int p1), some (.int p2)] [] 0
  unfold f_X1_addParts at hf
  refine x_iconst C (v := (0 : Int32)) (by decide) (dkAt dk_X1_addParts 0 rfl) 1 rfl ?_
  refine x_istore C (L1 := [some (.ref (wad Γ 16)), some (.int p0), some (.int p1), some (.int p2), some (.int (0 : Int32))]) (dkAt dk_X1_addParts 1 rfl) 3 rfl (by decide) rfl ?_
  refine G.weak (L := [some (.ref (wad Γ 16)), some (.int p0), some (.int p1), some (.int p2), some (.int (0 : Int32))]) ⟨rfl, rfl, rfl, rfl, rfl, trivial⟩ ?_
  refine l_X1_addParts_L3 hN C E Z _ _ hf
def f_X1_fillParts_L23 (Z : Nat) (w : Nat) (x3 : Int32) (k : Mem → Option (Unit × Mem)) : Nat → Int32 → Mem → Option (Unit × Mem)
  | 0, _, _ => none
  | n + 1, x6, M7 => rdI M7 4 6 x3 (fun v8 => (if v8 ≤ x6 then k M7 else cl (f_X11_rowOf Z M7 x3 x6) (fun v9 M10 => rdI M10 w 18 v9 (fun v11 => jn (fun (t12 : Mem) => f_X1_fillParts_L23 Z w x3 k n (x6 + (1 : Int32)) t12) (fun j13 => (if v11 ≤ 0 then j13 M10 else rdI M10 w 18 v9 (fun v14 => cl (f_X1_addParts Z M10 x3 v9 v14) (fun v15 M16 => j13 M16))))))))
def f_X1_fillParts_L10 (Z : Nat) (w : Nat) : Nat → Int32 → Mem → Option (Unit × Mem)
  | 0, _, _ => none
  | n + 1, x3, M4 => bd (gI M4 (3) 0) (fun v5 => (if v5 ≤ x3 then some ((), M4) else f_X1_fillParts_L23 Z w x3 (fun (M19 : Mem) => f_X1_fillParts_L10 Z w n (x3 + (1 : Int32)) M19) Z (0 : Int32) M4))
def f_X1_fillParts (Z : Nat) (M : Mem) (w : Nat) : Option (Unit × Mem) :=
  cl (f_J7_fill_d0a16 Z M (17) 36 (0 : Int64)) (fun v1 M2 => f_X1_fillParts_L10 Z w Z (0 : Int32) M2)
set_option maxRecDepth 100000 in
theorem l_X1_fillParts_L23 {Γ : WC} {X : MX} (hN : HN Γ) (C : CX Γ X cX1_fillParts 5 RX1 none (rmL 2 0 0)) {rM : Unit × Mem} (E : EndN Γ X none rM.2 0 0) {Z : Nat} {w : Nat} {x3 : Int32} (h_w : SH[w]? = some (0, 18)) {k : Mem → Option (Unit × Mem)} (hk : ∀  (Mx : Mem), k Mx = some rM → G Γ X Mx 0 0 [some (.ref (wad Γ 16)), some (.ref (wad Γ w)), some (.int x3)] [] 67) : ∀ (n : Nat) (x6 : Int32) (M7 : Mem), f_X1_fillParts_L23 Z w x3 k n x6 M7 = some rM → G Γ X M7 0 0 [some (.ref (wad Γ 16)), some (.ref (wad Γ w)), some (.int x3), some (.int x6)] [] 23 := by
  intro n
  induction n with
  | zero =>
    intro x6 M7 hf
    have hf0 : (none : Option _) = some rM := hf
    cases hf0
  | succ n ih =>
    intro x6 M7 hf
    rw [f_X1_fillParts_L23] at hf
    refine x_iload_n C rfl rfl (dkAt dk_X1_fillParts 13 rfl) 24 rfl ?_
    refine x_aload_n C rfl rfl (dkAt dk_X1_fillParts 14 rfl) 25 rfl ?_
    refine x_getS C lk_RX1_24 (hN.sh sh16) (hN.sr sr16_0) (dkAt dk_X1_fillParts 15 rfl) 28 rfl ?_
    refine x_getS C lk_RX1_54 (hN.sh sh3) (hN.sr sr3_2) (dkAt dk_X1_fillParts 16 rfl) 31 rfl ?_
    refine x_iload_n C rfl rfl (dkAt dk_X1_fillParts 17 rfl) 32 rfl ?_
    refine x_iald C (hN.sh sh4) (dkAt dk_X1_fillParts 18 rfl) 33 rfl hf (fun v8 hf => ?_)
    refine x_icmp_ge C 67 (dkAt dk_X1_fillParts 19 rfl) 36 rfl (by decide) hf (fun hf => ?_) (fun hf => ?_)
    · exact G.weak (L := [some (.ref (wad Γ 16)), some (.ref (wad Γ w)), some (.int x3)]) ⟨rfl, rfl, rfl, trivial⟩ (hk _ hf)
    · refine x_iload_n C rfl rfl (dkAt dk_X1_fillParts 20 rfl) 37 rfl ?_
      refine x_iload_n C rfl rfl (dkAt dk_X1_fillParts 21 rfl) 38 rfl ?_
      obtain ⟨v9, M10, h18, hf⟩ := cl_inv hf
      refine x_cNi C (c_X11_rowOf hN h18) mw_X11_rowOf ln_RX1_58 ms_X11_rowOf (ro_of (by decide) (by decide) (by decide) (by decide)) rfl rfl (Nat.le_of_ble_eq_true rfl) (dkAt dk_X1_fillParts 22 rfl) 41 rfl 0 0 rfl rfl ?_
      refine x_istore C (L1 := [some (.ref (wad Γ 16)), some (.ref (wad Γ w)), some (.int x3), some (.int x6), some (.int v9)]) (dkAt dk_X1_fillParts 23 rfl) 43 rfl (by decide) rfl ?_
      refine x_aload_n C rfl rfl (dkAt dk_X1_fillParts 24 rfl) 44 rfl ?_
      refine x_iload C rfl (dkAt dk_X1_fillParts 25 rfl) 46 rfl ?_
      refine x_iald C (hN.sh h_w) (dkAt dk_X1_fillParts 26 rfl) 47 rfl hf (fun v11 hf => ?_)
      refine x_join hf (fun t12 => G Γ X t12 0 0 [some (.ref (wad Γ 16)), some (.ref (wad Γ w)), some (.int x3), some (.int x6)] [] 61) (fun t12 hf => ?_) (fun j13 hj13 hf => ?_)
      · refine x_iinc C (v := (x6 + (1 : Int32))) (L1 := [some (.ref (wad Γ 16)), some (.ref (wad Γ w)), some (.int x3), some (.int (x6 + (1 : Int32)))]) (dkAt dk_X1_fillParts 35 rfl) 64 rfl rfl rfl (by decide) rfl ?_
        refine x_goto C 23 (dkAt dk_X1_fillParts 36 rfl) (by decide) ?_
        exact G.weak (L := [some (.ref (wad Γ 16)), some (.ref (wad Γ w)), some (.int x3), some (.int (x6 + (1 : Int32)))]) ⟨rfl, rfl, rfl, rfl, trivial⟩ (ih _ _ hf)
      · refine x_if_le C 61 (dkAt dk_X1_fillParts 27 rfl) 50 rfl (by decide) hf (fun hf => ?_) (fun hf => ?_)
        · exact G.weak (L := [some (.ref (wad Γ 16)), some (.ref (wad Γ w)), some (.int x3), some (.int x6)]) ⟨rfl, rfl, rfl, rfl, trivial⟩ (hj13 _ hf)
        · refine x_aload_n C rfl rfl (dkAt dk_X1_fillParts 28 rfl) 51 rfl ?_
          refine x_iload_n C rfl rfl (dkAt dk_X1_fillParts 29 rfl) 52 rfl ?_
          refine x_iload C rfl (dkAt dk_X1_fillParts 30 rfl) 54 rfl ?_
          refine x_aload_n C rfl rfl (dkAt dk_X1_fillParts 31 rfl) 55 rfl ?_
          refine x_iload C rfl (dkAt dk_X1_fillParts 32 rfl) 57 rfl ?_
          refine x_iald C (hN.sh h_w) (dkAt dk_X1_fillParts 33 rfl) 58 rfl hf (fun v14 hf => ?_)
          obtain ⟨v15, M16, h17, hf⟩ := cl_inv hf
          refine x_cVv C (c_X1_addParts hN h17) mw_X1_addParts ln_RX1_62 mi_X1_addParts (hN.rc (ci := 1) sh16 rc1) (ro_of (by decide) (by decide) (by decide) (by decide)) rfl rfl (Nat.le_of_ble_eq_true rfl) (dkAt dk_X1_fillParts 34 rfl) 61 rfl 0 0 rfl rfl ?_
          exact G.weak (L := [some (.ref (wad Γ 16)), some (.ref (wad Γ w)), some (.int x3), some (.int x6)]) ⟨rfl, rfl, rfl, rfl, trivial⟩ (hj13 _ hf)
set_option maxRecDepth 100000 in
theorem l_X1_fillParts_L10 {Γ : WC} {X : MX} (hN : HN Γ) (C : CX Γ X cX1_fillParts 5 RX1 none (rmL 2 0 0)) {rM : Unit × Mem} (E : EndN Γ X none rM.2 0 0) {Z : Nat} {w : Nat} (h_w : SH[w]? = some (0, 18)) : ∀ (n : Nat) (x3 : Int32) (M4 : Mem), f_X1_fillParts_L10 Z w n x3 M4 = some rM → G Γ X M4 0 0 [some (.ref (wad Γ 16)), some (.ref (wad Γ w)), some (.int x3)] [] 10 := by
  intro n
  induction n with
  | zero =>
    intro x3 M4 hf
    have hf0 : (none : Option _) = some rM := hf
    cases hf0
  | succ n ih =>
    intro x3 M4 hf
    rw [f_X1_fillParts_L10] at hf
    refine x_iload_n C rfl rfl (dkAt dk_X1_fillParts 6 rfl) 11 rfl ?_
    refine x_aload_n C rfl rfl (dkAt dk_X1_fillParts 7 rfl) 12 rfl ?_
    refine x_getS C lk_RX1_24 (hN.sh sh16) (hN.sr sr16_0) (dkAt dk_X1_fillParts 8 rfl) 15 rfl ?_
    refine x_getI C lk_RX1_49 (hN.sh sh3) (dkAt dk_X1_fillParts 9 rfl) 18 rfl hf (fun v5 hf => ?_)
    refine x_icmp_ge C 73 (dkAt dk_X1_fillParts 10 rfl) 21 rfl (by decide) hf (fun hf => ?_) (fun hf => ?_)
    · exact x_vret C E hf (by decide) (by decide) (dkAt dk_X1_fillParts 39 rfl)
    · refine x_iconst C (v := (0 : Int32)) (by decide) (dkAt dk_X1_fillParts 11 rfl) 22 rfl ?_
      refine x_istore_n C (L1 := [some (.ref (wad Γ 16)), some (.ref (wad Γ w)), some (.int x3), some (.int (0 : Int32))]) (dkAt dk_X1_fillParts 12 rfl) 23 rfl rfl (by decide) rfl ?_
      refine G.weak (L := [some (.ref (wad Γ 16)), some (.ref (wad Γ w)), some (.int x3), some (.int (0 : Int32))]) ⟨rfl, rfl, rfl, rfl, trivial⟩ ?_
      refine l_X1_fillParts_L23 hN C E h_w ?_ Z _ _ hf
      intro M19 hf
      refine x_iinc C (v := (x3 + (1 : Int32))) (L1 := [some (.ref (wad Γ 16)), some (.ref (wad Γ w)), some (.int (x3 + (1 : Int32)))]) (dkAt dk_X1_fillParts 37 rfl) 70 rfl rfl rfl (by decide) rfl ?_
      refine x_goto C 10 (dkAt dk_X1_fillParts 38 rfl) (by decide) ?_
      exact G.weak (L := [some (.ref (wad Γ 16)), some (.ref (wad Γ w)), some (.int (x3 + (1 : Int32)))]) ⟨rfl, rfl, rfl, trivial⟩ (ih _ _ hf)
set_option maxRecDepth 100000 in
theorem c_X1_fillParts {Γ : WC} (hN : HN Γ) {Z : Nat} {M : Mem} {w : Nat} {rM : Unit × Mem} (h_w : SH[w]? = some (0, 18)) (hf : f_X1_fillParts Z M w = some rM) : Ct Γ yX1_fillParts cX1_fillParts 5 none (rmL 2 0 0) [.ref (wad Γ 16), .ref (wad Γ w)] M none rM.2 := by
  refine mkN hN.1 (own := RX1) rfl (by decide) (Nat.le_of_ble_eq_true rfl) (fun X C E => ?_)
  change G Γ X M 0 0 [some (.ref (wad Γ 16)), some (.ref (wad Γ w))] [] 0
  unfold f_X1_fillParts at hf
  refine x_aload_n C rfl rfl (dkAt dk_X1_fillParts 0 rfl) 1 rfl ?_
  refine x_getS C lk_RX1_9 (hN.sh sh16) (hN.sr sr16_3) (dkAt dk_X1_fillParts 1 rfl) 4 rfl ?_
  refine x_lconst C (v := (0 : Int64)) (by decide) (dkAt dk_X1_fillParts 2 rfl) 5 rfl ?_
  obtain ⟨v1, M2, h20, hf⟩ := cl_inv hf
  refine x_cSv C (c_J7_fill_d0a16 hN sh17 h20) mw_J7_fill_d0a16 ln_RX1_39 ms_J7_fill_d0a16 (ro_of (by decide) (by decide) (by decide) (by decide)) rfl rfl (Nat.le_of_ble_eq_true rfl) (dkAt dk_X1_fillParts 3 rfl) 8 rfl 0 0 rfl rfl ?_
  refine x_iconst C (v := (0 : Int32)) (by decide) (dkAt dk_X1_fillParts 4 rfl) 9 rfl ?_
  refine x_istore_n C (L1 := [some (.ref (wad Γ 16)), some (.ref (wad Γ w)), some (.int (0 : Int32))]) (dkAt dk_X1_fillParts 5 rfl) 10 rfl rfl (by decide) rfl ?_
  refine G.weak (L := [some (.ref (wad Γ 16)), some (.ref (wad Γ w)), some (.int (0 : Int32))]) ⟨rfl, rfl, rfl, trivial⟩ ?_
  refine l_X1_fillParts_L10 hN C E h_w Z _ _ hf
def f_X1_partsTo (Z : Nat) (M : Mem) (p0 : Int32) (p1 : Int32) : Option (Int64 × Mem) :=
  rdL M 17 36 ((p0 * (6 : Int32)) + p1) (fun v1 => some (v1, M))
set_option maxRecDepth 100000 in
theorem c_X1_partsTo {Γ : WC} (hN : HN Γ) {Z : Nat} {M : Mem} {p0 : Int32} {p1 : Int32} {rM : Int64 × Mem}  (hf : f_X1_partsTo Z M p0 p1 = some rM) : Ct Γ yX1_partsTo cX1_partsTo 3 (some .long) (rmL 0 0 0) [.ref (wad Γ 16), .int p0, .int p1] M (some (.long rM.1)) rM.2 := by
  refine mkN hN.1 (own := RX1) rfl (by decide) (Nat.le_of_ble_eq_true rfl) (fun X C E => ?_)
  change G Γ X M 0 0 [some (.ref (wad Γ 16)), some (.int p0), some (.int p1)] [] 0
  unfold f_X1_partsTo at hf
  refine x_aload_n C rfl rfl (dkAt dk_X1_partsTo 0 rfl) 1 rfl ?_
  refine x_getS C lk_RX1_9 (hN.sh sh16) (hN.sr sr16_3) (dkAt dk_X1_partsTo 1 rfl) 4 rfl ?_
  refine x_iload_n C rfl rfl (dkAt dk_X1_partsTo 2 rfl) 5 rfl ?_
  refine x_bipush C (v := (6 : Int32)) (by decide) (dkAt dk_X1_partsTo 3 rfl) 7 rfl ?_
  refine x_imul C (dkAt dk_X1_partsTo 4 rfl) 8 rfl ?_
  refine x_iload_n C rfl rfl (dkAt dk_X1_partsTo 5 rfl) 9 rfl ?_
  refine x_iadd C (dkAt dk_X1_partsTo 6 rfl) 10 rfl ?_
  refine x_lald C (hN.sh sh17) (dkAt dk_X1_partsTo 7 rfl) 11 rfl hf (fun v1 hf => ?_)
  exact x_lret C E hf (by decide) (by decide) (dkAt dk_X1_partsTo 8 rfl)
def f_X1_spread_L33 (Z : Nat) (w : Nat) (p1 : Int32) (x1 : Int32) (v4 : Int64) (k : Mem → Option (Unit × Mem)) : Nat → Int32 → Mem → Option (Unit × Mem)
  | 0, _, _ => none
  | n + 1, x5, M6 => bd (gI M6 (3) 0) (fun v7 => (if v7 ≤ x5 then k M6 else rdL M6 w 36 (((p1 + (1 : Int32)) * (6 : Int32)) + x5) (fun v8 => cl (f_X1_partsTo Z M6 x1 x5) (fun v9 M10 => wrL M10 w 36 (((p1 + (1 : Int32)) * (6 : Int32)) + x5) (v8 + (v4 * v9)) (fun M11 => f_X1_spread_L33 Z w p1 x1 v4 k n (x5 + (1 : Int32)) M11)))))
def f_X1_spread_L2 (Z : Nat) (w : Nat) (p1 : Int32) : Nat → Int32 → Mem → Option (Unit × Mem)
  | 0, _, _ => none
  | n + 1, x1, M2 => bd (gI M2 (3) 0) (fun v3 => (if v3 ≤ x1 then some ((), M2) else rdL M2 w 36 ((p1 * (6 : Int32)) + x1) (fun v4 => (if v4 ≤ (0 : Int64) then f_X1_spread_L2 Z w p1 n (x1 + (1 : Int32)) M2 else f_X1_spread_L33 Z w p1 x1 v4 (fun (M13 : Mem) => f_X1_spread_L2 Z w p1 n (x1 + (1 : Int32)) M13) Z (0 : Int32) M2))))
def f_X1_spread (Z : Nat) (M : Mem) (w : Nat) (p1 : Int32) : Option (Unit × Mem) :=
  f_X1_spread_L2 Z w p1 Z (0 : Int32) M
set_option maxRecDepth 100000 in
theorem l_X1_spread_L33 {Γ : WC} {X : MX} (hN : HN Γ) (C : CX Γ X cX1_spread 7 RX1 none (rmL 1 0 0)) {rM : Unit × Mem} (E : EndN Γ X none rM.2 0 0) {Z : Nat} {w : Nat} {p1 : Int32} {x1 : Int32} {v4 : Int64} (h_w : SH[w]? = some (1, 36)) {k : Mem → Option (Unit × Mem)} (hk : ∀  (Mx : Mem), k Mx = some rM → G Γ X Mx 0 0 [some (.ref (wad Γ 16)), some (.ref (wad Γ w)), some (.int p1), some (.int x1)] [] 75) : ∀ (n : Nat) (x5 : Int32) (M6 : Mem), f_X1_spread_L33 Z w p1 x1 v4 k n x5 M6 = some rM → G Γ X M6 0 0 [some (.ref (wad Γ 16)), some (.ref (wad Γ w)), some (.int p1), some (.int x1), some (.long v4), none, some (.int x5)] [] 33 := by
  intro n
  induction n with
  | zero =>
    intro x5 M6 hf
    have hf0 : (none : Option _) = some rM := hf
    cases hf0
  | succ n ih =>
    intro x5 M6 hf
    rw [f_X1_spread_L33] at hf
    refine x_iload C rfl (dkAt dk_X1_spread 21 rfl) 35 rfl ?_
    refine x_aload_n C rfl rfl (dkAt dk_X1_spread 22 rfl) 36 rfl ?_
    refine x_getS C lk_RX1_24 (hN.sh sh16) (hN.sr sr16_0) (dkAt dk_X1_spread 23 rfl) 39 rfl ?_
    refine x_getI C lk_RX1_49 (hN.sh sh3) (dkAt dk_X1_spread 24 rfl) 42 rfl hf (fun v7 hf => ?_)
    refine x_icmp_ge C 75 (dkAt dk_X1_spread 25 rfl) 45 rfl (by decide) hf (fun hf => ?_) (fun hf => ?_)
    · exact G.weak (L := [some (.ref (wad Γ 16)), some (.ref (wad Γ w)), some (.int p1), some (.int x1)]) ⟨rfl, rfl, rfl, rfl, trivial⟩ (hk _ hf)
    · refine x_aload_n C rfl rfl (dkAt dk_X1_spread 26 rfl) 46 rfl ?_
      refine x_iload_n C rfl rfl (dkAt dk_X1_spread 27 rfl) 47 rfl ?_
      refine x_iconst C (v := (1 : Int32)) (by decide) (dkAt dk_X1_spread 28 rfl) 48 rfl ?_
      refine x_iadd C (dkAt dk_X1_spread 29 rfl) 49 rfl ?_
      refine x_bipush C (v := (6 : Int32)) (by decide) (dkAt dk_X1_spread 30 rfl) 51 rfl ?_
      refine x_imul C (dkAt dk_X1_spread 31 rfl) 52 rfl ?_
      refine x_iload C rfl (dkAt dk_X1_spread 32 rfl) 54 rfl ?_
      refine x_iadd C (dkAt dk_X1_spread 33 rfl) 55 rfl ?_
      refine x_dup2 C rfl rfl (dkAt dk_X1_spread 34 rfl) 56 rfl ?_
      refine x_lald C (hN.sh h_w) (dkAt dk_X1_spread 35 rfl) 57 rfl hf (fun v8 hf => ?_)
      refine x_lload C rfl (dkAt dk_X1_spread 36 rfl) 59 rfl ?_
      refine x_aload_n C rfl rfl (dkAt dk_X1_spread 37 rfl) 60 rfl ?_
      refine x_iload_n C rfl rfl (dkAt dk_X1_spread 38 rfl) 61 rfl ?_
      refine x_iload C rfl (dkAt dk_X1_spread 39 rfl) 63 rfl ?_
      obtain ⟨v9, M10, h12, hf⟩ := cl_inv hf
      refine x_cVl C (c_X1_partsTo hN h12) mw_X1_partsTo ln_RX1_69 mi_X1_partsTo (hN.rc (ci := 1) sh16 rc1) (ro_of (by decide) (by decide) (by decide) (by decide)) rfl rfl (Nat.le_of_ble_eq_true rfl) (dkAt dk_X1_spread 40 rfl) 66 rfl 0 0 rfl rfl ?_
      refine x_lmul C (dkAt dk_X1_spread 41 rfl) 67 rfl ?_
      refine x_ladd C (dkAt dk_X1_spread 42 rfl) 68 rfl ?_
      refine x_last C (hN.sh h_w) (dkAt dk_X1_spread 43 rfl) 69 rfl hf (fun M11 hf => ?_)
      refine x_iinc C (v := (x5 + (1 : Int32))) (L1 := [some (.ref (wad Γ 16)), some (.ref (wad Γ w)), some (.int p1), some (.int x1), some (.long v4), none, some (.int (x5 + (1 : Int32)))]) (dkAt dk_X1_spread 44 rfl) 72 rfl rfl rfl (by decide) rfl ?_
      refine x_goto C 33 (dkAt dk_X1_spread 45 rfl) (by decide) ?_
      exact G.weak (L := [some (.ref (wad Γ 16)), some (.ref (wad Γ w)), some (.int p1), some (.int x1), some (.long v4), none, some (.int (x5 + (1 : Int32)))]) ⟨rfl, rfl, rfl, rfl, rfl, rfl, trivial⟩ (ih _ _ hf)
set_option maxRecDepth 100000 in
theorem l_X1_spread_L2 {Γ : WC} {X : MX} (hN : HN Γ) (C : CX Γ X cX1_spread 7 RX1 none (rmL 1 0 0)) {rM : Unit × Mem} (E : EndN Γ X none rM.2 0 0) {Z : Nat} {w : Nat} {p1 : Int32} (h_w : SH[w]? = some (1, 36)) : ∀ (n : Nat) (x1 : Int32) (M2 : Mem), f_X1_spread_L2 Z w p1 n x1 M2 = some rM → G Γ X M2 0 0 [some (.ref (wad Γ 16)), some (.ref (wad Γ w)), some (.int p1), some (.int x1)] [] 2 := by
  intro n
  induction n with
  | zero =>
    intro x1 M2 hf
    have hf0 : (none : Option _) = some rM := hf
    cases hf0
  | succ n ih =>
    intro x1 M2 hf
    rw [f_X1_spread_L2] at hf
    refine x_iload_n C rfl rfl (dkAt dk_X1_spread 2 rfl) 3 rfl ?_
    refine x_aload_n C rfl rfl (dkAt dk_X1_spread 3 rfl) 4 rfl ?_
    refine x_getS C lk_RX1_24 (hN.sh sh16) (hN.sr sr16_0) (dkAt dk_X1_spread 4 rfl) 7 rfl ?_
    refine x_getI C lk_RX1_49 (hN.sh sh3) (dkAt dk_X1_spread 5 rfl) 10 rfl hf (fun v3 hf => ?_)
    refine x_icmp_ge C 81 (dkAt dk_X1_spread 6 rfl) 13 rfl (by decide) hf (fun hf => ?_) (fun hf => ?_)
    · exact x_vret C E hf (by decide) (by decide) (dkAt dk_X1_spread 48 rfl)
    · refine x_aload_n C rfl rfl (dkAt dk_X1_spread 7 rfl) 14 rfl ?_
      refine x_iload_n C rfl rfl (dkAt dk_X1_spread 8 rfl) 15 rfl ?_
      refine x_bipush C (v := (6 : Int32)) (by decide) (dkAt dk_X1_spread 9 rfl) 17 rfl ?_
      refine x_imul C (dkAt dk_X1_spread 10 rfl) 18 rfl ?_
      refine x_iload_n C rfl rfl (dkAt dk_X1_spread 11 rfl) 19 rfl ?_
      refine x_iadd C (dkAt dk_X1_spread 12 rfl) 20 rfl ?_
      refine x_lald C (hN.sh h_w) (dkAt dk_X1_spread 13 rfl) 21 rfl hf (fun v4 hf => ?_)
      refine x_lstore C (L1 := [some (.ref (wad Γ 16)), some (.ref (wad Γ w)), some (.int p1), some (.int x1), some (.long v4)]) (dkAt dk_X1_spread 14 rfl) 23 rfl (by decide) rfl ?_
      refine x_lload C rfl (dkAt dk_X1_spread 15 rfl) 25 rfl ?_
      refine x_lconst C (v := (0 : Int64)) (by decide) (dkAt dk_X1_spread 16 rfl) 26 rfl ?_
      refine x_lcmp_le C 75 (dkAt dk_X1_spread 17 rfl) 30 rfl (dkAt dk_X1_spread 18 rfl) (by decide) hf (fun hf => ?_) (fun hf => ?_)
      · refine x_iinc C (v := (x1 + (1 : Int32))) (L1 := [some (.ref (wad Γ 16)), some (.ref (wad Γ w)), some (.int p1), some (.int (x1 + (1 : Int32))), some (.long v4)]) (dkAt dk_X1_spread 46 rfl) 78 rfl rfl rfl (by decide) rfl ?_
        refine x_goto C 2 (dkAt dk_X1_spread 47 rfl) (by decide) ?_
        exact G.weak (L := [some (.ref (wad Γ 16)), some (.ref (wad Γ w)), some (.int p1), some (.int (x1 + (1 : Int32)))]) ⟨rfl, rfl, rfl, rfl, trivial⟩ (ih _ _ hf)
      · refine x_iconst C (v := (0 : Int32)) (by decide) (dkAt dk_X1_spread 19 rfl) 31 rfl ?_
        refine x_istore C (L1 := [some (.ref (wad Γ 16)), some (.ref (wad Γ w)), some (.int p1), some (.int x1), some (.long v4), none, some (.int (0 : Int32))]) (dkAt dk_X1_spread 20 rfl) 33 rfl (by decide) rfl ?_
        refine G.weak (L := [some (.ref (wad Γ 16)), some (.ref (wad Γ w)), some (.int p1), some (.int x1), some (.long v4), none, some (.int (0 : Int32))]) ⟨rfl, rfl, rfl, rfl, rfl, rfl, trivial⟩ ?_
        refine l_X1_spread_L33 hN C E h_w ?_ Z _ _ hf
        intro M13 hf
        refine x_iinc C (v := (x1 + (1 : Int32))) (L1 := [some (.ref (wad Γ 16)), some (.ref (wad Γ w)), some (.int p1), some (.int (x1 + (1 : Int32)))]) (dkAt dk_X1_spread 46 rfl) 78 rfl rfl rfl (by decide) rfl ?_
        refine x_goto C 2 (dkAt dk_X1_spread 47 rfl) (by decide) ?_
        exact G.weak (L := [some (.ref (wad Γ 16)), some (.ref (wad Γ w)), some (.int p1), some (.int (x1 + (1 : Int32)))]) ⟨rfl, rfl, rfl, rfl, trivial⟩ (ih _ _ hf)
set_option maxRecDepth 100000 in
theorem c_X1_spread {Γ : WC} (hN : HN Γ) {Z : Nat} {M : Mem} {w : Nat} {p1 : Int32} {rM : Unit × Mem} (h_w : SH[w]? = some (1, 36)) (hf : f_X1_spread Z M w p1 = some rM) : Ct Γ yX1_spread cX1_spread 7 none (rmL 1 0 0) [.ref (wad Γ 16), .ref (wad Γ w), .int p1] M none rM.2 := by
  refine mkN hN.1 (own := RX1) rfl (by decide) (Nat.le_of_ble_eq_true rfl) (fun X C E => ?_)
  change G Γ X M 0 0 [some (.ref (wad Γ 16)), some (.ref (wad Γ w)), some (.int p1)] [] 0
  unfold f_X1_spread at hf
  refine x_iconst C (v := (0 : Int32)) (by decide) (dkAt dk_X1_spread 0 rfl) 1 rfl ?_
  refine x_istore_n C (L1 := [some (.ref (wad Γ 16)), some (.ref (wad Γ w)), some (.int p1), some (.int (0 : Int32))]) (dkAt dk_X1_spread 1 rfl) 2 rfl rfl (by decide) rfl ?_
  refine G.weak (L := [some (.ref (wad Γ 16)), some (.ref (wad Γ w)), some (.int p1), some (.int (0 : Int32))]) ⟨rfl, rfl, rfl, rfl, trivial⟩ ?_
  refine l_X1_spread_L2 hN C E h_w Z _ _ hf
def f_X1_follow_L36 (Z : Nat) : Nat → Int32 → Mem → Option (Unit × Mem)
  | 0, _, _ => none
  | n + 1, x9, M10 => bd (gI M10 (16) 2) (fun v11 => (if v11 ≤ x9 then some ((), M10) else cl (f_X1_spread Z M10 (18) x9) (fun v12 M13 => f_X1_follow_L36 Z n (x9 + (1 : Int32)) M13)))
def f_X1_follow (Z : Nat) (M : Mem) (w : Nat) (p1 : Int32) (p2 : Int32) : Option (Unit × Mem) :=
  bd (sI M (16) 1 p1) (fun M1 => bd (sI M1 (16) 2 p2) (fun M2 => cl (f_X1_fillParts Z M2 w) (fun v3 M4 => cl (f_J7_fill_d0a16 Z M4 (18) 36 (0 : Int64)) (fun v5 M6 => bd (gI M6 (16) 1) (fun v7 => wrL M6 18 36 v7 (1 : Int64) (fun M8 => f_X1_follow_L36 Z Z (0 : Int32) M8))))))
set_option maxRecDepth 100000 in
theorem l_X1_follow_L36 {Γ : WC} {X : MX} (hN : HN Γ) (C : CX Γ X cX1_follow 5 RX1 none (rmL 3 0 0)) {rM : Unit × Mem} (E : EndN Γ X none rM.2 0 0) {Z : Nat} : ∀ (n : Nat) (x9 : Int32) (M10 : Mem), f_X1_follow_L36 Z n x9 M10 = some rM → G Γ X M10 0 0 [some (.ref (wad Γ 16)), none, none, none, some (.int x9)] [] 36 := by
  intro n
  induction n with
  | zero =>
    intro x9 M10 hf
    have hf0 : (none : Option _) = some rM := hf
    cases hf0
  | succ n ih =>
    intro x9 M10 hf
    rw [f_X1_follow_L36] at hf
    refine x_iload C rfl (dkAt dk_X1_follow 21 rfl) 38 rfl ?_
    refine x_aload_n C rfl rfl (dkAt dk_X1_follow 22 rfl) 39 rfl ?_
    refine x_getI C lk_RX1_32 (hN.sh sh16) (dkAt dk_X1_follow 23 rfl) 42 rfl hf (fun v11 hf => ?_)
    refine x_icmp_ge C 61 (dkAt dk_X1_follow 24 rfl) 45 rfl (by decide) hf (fun hf => ?_) (fun hf => ?_)
    · exact x_vret C E hf (by decide) (by decide) (dkAt dk_X1_follow 32 rfl)
    · refine x_aload_n C rfl rfl (dkAt dk_X1_follow 25 rfl) 46 rfl ?_
      refine x_aload_n C rfl rfl (dkAt dk_X1_follow 26 rfl) 47 rfl ?_
      refine x_getS C lk_RX1_15 (hN.sh sh16) (hN.sr sr16_4) (dkAt dk_X1_follow 27 rfl) 50 rfl ?_
      refine x_iload C rfl (dkAt dk_X1_follow 28 rfl) 52 rfl ?_
      obtain ⟨v12, M13, h14, hf⟩ := cl_inv hf
      refine x_cVv C (c_X1_spread hN sh18 h14) mw_X1_spread ln_RX1_45 mi_X1_spread (hN.rc (ci := 1) sh16 rc1) (ro_of (by decide) (by decide) (by decide) (by decide)) rfl rfl (Nat.le_of_ble_eq_true rfl) (dkAt dk_X1_follow 29 rfl) 55 rfl 0 0 rfl rfl ?_
      refine x_iinc C (v := (x9 + (1 : Int32))) (L1 := [some (.ref (wad Γ 16)), none, none, none, some (.int (x9 + (1 : Int32)))]) (dkAt dk_X1_follow 30 rfl) 58 rfl rfl rfl (by decide) rfl ?_
      refine x_goto C 36 (dkAt dk_X1_follow 31 rfl) (by decide) ?_
      exact G.weak (L := [some (.ref (wad Γ 16)), none, none, none, some (.int (x9 + (1 : Int32)))]) ⟨rfl, rfl, trivial⟩ (ih _ _ hf)
set_option maxRecDepth 100000 in
theorem c_X1_follow {Γ : WC} (hN : HN Γ) {Z : Nat} {M : Mem} {w : Nat} {p1 : Int32} {p2 : Int32} {rM : Unit × Mem} (h_w : SH[w]? = some (0, 18)) (hf : f_X1_follow Z M w p1 p2 = some rM) : Ct Γ yX1_follow cX1_follow 5 none (rmL 3 0 0) [.ref (wad Γ 16), .ref (wad Γ w), .int p1, .int p2] M none rM.2 := by
  refine mkN hN.1 (own := RX1) rfl (by decide) (Nat.le_of_ble_eq_true rfl) (fun X C E => ?_)
  change G Γ X M 0 0 [some (.ref (wad Γ 16)), some (.ref (wad Γ w)), some (.int p1), some (.int p2)] [] 0
  unfold f_X1_follow at hf
  refine x_aload_n C rfl rfl (dkAt dk_X1_follow 0 rfl) 1 rfl ?_
  refine x_iload_n C rfl rfl (dkAt dk_X1_follow 1 rfl) 2 rfl ?_
  refine x_putI C pk_RX1_28 ⟨_, rfl⟩ (hN.sh sh16) (dkAt dk_X1_follow 2 rfl) 5 rfl hf (fun M1 hf => ?_)
  refine x_aload_n C rfl rfl (dkAt dk_X1_follow 3 rfl) 6 rfl ?_
  refine x_iload_n C rfl rfl (dkAt dk_X1_follow 4 rfl) 7 rfl ?_
  refine x_putI C pk_RX1_32 ⟨_, rfl⟩ (hN.sh sh16) (dkAt dk_X1_follow 5 rfl) 10 rfl hf (fun M2 hf => ?_)
  refine x_aload_n C rfl rfl (dkAt dk_X1_follow 6 rfl) 11 rfl ?_
  refine x_aload_n C rfl rfl (dkAt dk_X1_follow 7 rfl) 12 rfl ?_
  obtain ⟨v3, M4, h16, hf⟩ := cl_inv hf
  refine x_cVv C (c_X1_fillParts hN h_w h16) mw_X1_fillParts ln_RX1_35 mi_X1_fillParts (hN.rc (ci := 1) sh16 rc1) (ro_of (by decide) (by decide) (by decide) (by decide)) rfl rfl (Nat.le_of_ble_eq_true rfl) (dkAt dk_X1_follow 8 rfl) 15 rfl 0 0 rfl rfl ?_
  refine x_aload_n C rfl rfl (dkAt dk_X1_follow 9 rfl) 16 rfl ?_
  refine x_getS C lk_RX1_15 (hN.sh sh16) (hN.sr sr16_4) (dkAt dk_X1_follow 10 rfl) 19 rfl ?_
  refine x_lconst C (v := (0 : Int64)) (by decide) (dkAt dk_X1_follow 11 rfl) 20 rfl ?_
  obtain ⟨v5, M6, h15, hf⟩ := cl_inv hf
  refine x_cSv C (c_J7_fill_d0a16 hN sh18 h15) mw_J7_fill_d0a16 ln_RX1_39 ms_J7_fill_d0a16 (ro_of (by decide) (by decide) (by decide) (by decide)) rfl rfl (Nat.le_of_ble_eq_true rfl) (dkAt dk_X1_follow 12 rfl) 23 rfl 0 0 rfl rfl ?_
  refine x_aload_n C rfl rfl (dkAt dk_X1_follow 13 rfl) 24 rfl ?_
  refine x_getS C lk_RX1_15 (hN.sh sh16) (hN.sr sr16_4) (dkAt dk_X1_follow 14 rfl) 27 rfl ?_
  refine x_aload_n C rfl rfl (dkAt dk_X1_follow 15 rfl) 28 rfl ?_
  refine x_getI C lk_RX1_28 (hN.sh sh16) (dkAt dk_X1_follow 16 rfl) 31 rfl hf (fun v7 hf => ?_)
  refine x_lconst C (v := (1 : Int64)) (by decide) (dkAt dk_X1_follow 17 rfl) 32 rfl ?_
  refine x_last C (hN.sh sh18) (dkAt dk_X1_follow 18 rfl) 33 rfl hf (fun M8 hf => ?_)
  refine x_iconst C (v := (0 : Int32)) (by decide) (dkAt dk_X1_follow 19 rfl) 34 rfl ?_
  refine x_istore C (L1 := [some (.ref (wad Γ 16)), some (.ref (wad Γ w)), some (.int p1), some (.int p2), some (.int (0 : Int32))]) (dkAt dk_X1_follow 20 rfl) 36 rfl (by decide) rfl ?_
  refine G.weak (L := [some (.ref (wad Γ 16)), none, none, none, some (.int (0 : Int32))]) ⟨rfl, rfl, trivial⟩ ?_
  refine l_X1_follow_L36 hN C E Z _ _ hf
def f_X1_nextStates_L4 (Z : Nat) (p0 : Int32) : Nat → Int32 → Int32 → Mem → Option (Int32 × Mem)
  | 0, _, _, _ => none
  | n + 1, x1, x2, M3 => bd (gI M3 (3) 0) (fun v4 => (if v4 ≤ x2 then some (x1, M3) else cl (f_X1_partsTo Z M3 p0 x2) (fun v5 M6 => (if v5 ≤ (0 : Int64) then f_X1_nextStates_L4 Z p0 n x1 (x2 + (1 : Int32)) M6 else f_X1_nextStates_L4 Z p0 n (x1 ||| ((1 : Int32) <<< (x2 &&& 31))) (x2 + (1 : Int32)) M6))))
def f_X1_nextStates (Z : Nat) (M : Mem) (p0 : Int32) : Option (Int32 × Mem) :=
  f_X1_nextStates_L4 Z p0 Z (0 : Int32) (0 : Int32) M
set_option maxRecDepth 100000 in
theorem l_X1_nextStates_L4 {Γ : WC} {X : MX} (hN : HN Γ) (C : CX Γ X cX1_nextStates 4 RX1 (some .int) (rmL 1 0 0)) {rM : Int32 × Mem} (E : EndN Γ X (some (.int rM.1)) rM.2 0 0) {Z : Nat} {p0 : Int32} : ∀ (n : Nat) (x1 : Int32) (x2 : Int32) (M3 : Mem), f_X1_nextStates_L4 Z p0 n x1 x2 M3 = some rM → G Γ X M3 0 0 [some (.ref (wad Γ 16)), some (.int p0), some (.int x1), some (.int x2)] [] 4 := by
  intro n
  induction n with
  | zero =>
    intro x1 x2 M3 hf
    have hf0 : (none : Option _) = some rM := hf
    cases hf0
  | succ n ih =>
    intro x1 x2 M3 hf
    rw [f_X1_nextStates_L4] at hf
    refine x_iload_n C rfl rfl (dkAt dk_X1_nextStates 4 rfl) 5 rfl ?_
    refine x_aload_n C rfl rfl (dkAt dk_X1_nextStates 5 rfl) 6 rfl ?_
    refine x_getS C lk_RX1_24 (hN.sh sh16) (hN.sr sr16_0) (dkAt dk_X1_nextStates 6 rfl) 9 rfl ?_
    refine x_getI C lk_RX1_49 (hN.sh sh3) (dkAt dk_X1_nextStates 7 rfl) 12 rfl hf (fun v4 hf => ?_)
    refine x_icmp_ge C 38 (dkAt dk_X1_nextStates 8 rfl) 15 rfl (by decide) hf (fun hf => ?_) (fun hf => ?_)
    · refine x_iload_n C rfl rfl (dkAt dk_X1_nextStates 24 rfl) 39 rfl ?_
      exact x_iret C E hf (by decide) (by decide) (dkAt dk_X1_nextStates 25 rfl)
    · refine x_aload_n C rfl rfl (dkAt dk_X1_nextStates 9 rfl) 16 rfl ?_
      refine x_iload_n C rfl rfl (dkAt dk_X1_nextStates 10 rfl) 17 rfl ?_
      refine x_iload_n C rfl rfl (dkAt dk_X1_nextStates 11 rfl) 18 rfl ?_
      obtain ⟨v5, M6, h7, hf⟩ := cl_inv hf
      refine x_cVl C (c_X1_partsTo hN h7) mw_X1_partsTo ln_RX1_69 mi_X1_partsTo (hN.rc (ci := 1) sh16 rc1) (ro_of (by decide) (by decide) (by decide) (by decide)) rfl rfl (Nat.le_of_ble_eq_true rfl) (dkAt dk_X1_nextStates 12 rfl) 21 rfl 0 0 rfl rfl ?_
      refine x_lconst C (v := (0 : Int64)) (by decide) (dkAt dk_X1_nextStates 13 rfl) 22 rfl ?_
      refine x_lcmp_le C 32 (dkAt dk_X1_nextStates 14 rfl) 26 rfl (dkAt dk_X1_nextStates 15 rfl) (by decide) hf (fun hf => ?_) (fun hf => ?_)
      · refine x_iinc C (v := (x2 + (1 : Int32))) (L1 := [some (.ref (wad Γ 16)), some (.int p0), some (.int x1), some (.int (x2 + (1 : Int32)))]) (dkAt dk_X1_nextStates 22 rfl) 35 rfl rfl rfl (by decide) rfl ?_
        refine x_goto C 4 (dkAt dk_X1_nextStates 23 rfl) (by decide) ?_
        exact G.weak (L := [some (.ref (wad Γ 16)), some (.int p0), some (.int x1), some (.int (x2 + (1 : Int32)))]) ⟨rfl, rfl, rfl, rfl, trivial⟩ (ih _ _ _ hf)
      · refine x_iload_n C rfl rfl (dkAt dk_X1_nextStates 16 rfl) 27 rfl ?_
        refine x_iconst C (v := (1 : Int32)) (by decide) (dkAt dk_X1_nextStates 17 rfl) 28 rfl ?_
        refine x_iload_n C rfl rfl (dkAt dk_X1_nextStates 18 rfl) 29 rfl ?_
        refine x_ishl C (dkAt dk_X1_nextStates 19 rfl) 30 rfl ?_
        refine x_ior C (dkAt dk_X1_nextStates 20 rfl) 31 rfl ?_
        refine x_istore_n C (L1 := [some (.ref (wad Γ 16)), some (.int p0), some (.int (x1 ||| ((1 : Int32) <<< (x2 &&& 31)))), some (.int x2)]) (dkAt dk_X1_nextStates 21 rfl) 32 rfl rfl (by decide) rfl ?_
        refine x_iinc C (v := (x2 + (1 : Int32))) (L1 := [some (.ref (wad Γ 16)), some (.int p0), some (.int (x1 ||| ((1 : Int32) <<< (x2 &&& 31)))), some (.int (x2 + (1 : Int32)))]) (dkAt dk_X1_nextStates 22 rfl) 35 rfl rfl rfl (by decide) rfl ?_
        refine x_goto C 4 (dkAt dk_X1_nextStates 23 rfl) (by decide) ?_
        exact G.weak (L := [some (.ref (wad Γ 16)), some (.int p0), some (.int (x1 ||| ((1 : Int32) <<< (x2 &&& 31)))), some (.int (x2 + (1 : Int32)))]) ⟨rfl, rfl, rfl, rfl, trivial⟩ (ih _ _ _ hf)
set_option maxRecDepth 100000 in
theorem c_X1_nextStates {Γ : WC} (hN : HN Γ) {Z : Nat} {M : Mem} {p0 : Int32} {rM : Int32 × Mem}  (hf : f_X1_nextStates Z M p0 = some rM) : Ct Γ yX1_nextStates cX1_nextStates 4 (some .int) (rmL 1 0 0) [.ref (wad Γ 16), .int p0] M (some (.int rM.1)) rM.2 := by
  refine mkN hN.1 (own := RX1) rfl (by decide) (Nat.le_of_ble_eq_true rfl) (fun X C E => ?_)
  change G Γ X M 0 0 [some (.ref (wad Γ 16)), some (.int p0)] [] 0
  unfold f_X1_nextStates at hf
  refine x_iconst C (v := (0 : Int32)) (by decide) (dkAt dk_X1_nextStates 0 rfl) 1 rfl ?_
  refine x_istore_n C (L1 := [some (.ref (wad Γ 16)), some (.int p0), some (.int (0 : Int32))]) (dkAt dk_X1_nextStates 1 rfl) 2 rfl rfl (by decide) rfl ?_
  refine x_iconst C (v := (0 : Int32)) (by decide) (dkAt dk_X1_nextStates 2 rfl) 3 rfl ?_
  refine x_istore_n C (L1 := [some (.ref (wad Γ 16)), some (.int p0), some (.int (0 : Int32)), some (.int (0 : Int32))]) (dkAt dk_X1_nextStates 3 rfl) 4 rfl rfl (by decide) rfl ?_
  refine G.weak (L := [some (.ref (wad Γ 16)), some (.int p0), some (.int (0 : Int32)), some (.int (0 : Int32))]) ⟨rfl, rfl, rfl, rfl, trivial⟩ ?_
  refine l_X1_nextStates_L4 hN C E Z _ _ _ hf
def f_X1_at (Z : Nat) (M : Mem) (p0 : Int32) (p1 : Int32) : Option (Int64 × Mem) :=
  rdL M 18 36 ((p1 * (6 : Int32)) + p0) (fun v1 => some (v1, M))
set_option maxRecDepth 100000 in
theorem c_X1_at {Γ : WC} (hN : HN Γ) {Z : Nat} {M : Mem} {p0 : Int32} {p1 : Int32} {rM : Int64 × Mem}  (hf : f_X1_at Z M p0 p1 = some rM) : Ct Γ yX1_at cX1_at 3 (some .long) (rmL 0 0 0) [.ref (wad Γ 16), .int p0, .int p1] M (some (.long rM.1)) rM.2 := by
  refine mkN hN.1 (own := RX1) rfl (by decide) (Nat.le_of_ble_eq_true rfl) (fun X C E => ?_)
  change G Γ X M 0 0 [some (.ref (wad Γ 16)), some (.int p0), some (.int p1)] [] 0
  unfold f_X1_at at hf
  refine x_aload_n C rfl rfl (dkAt dk_X1_at 0 rfl) 1 rfl ?_
  refine x_getS C lk_RX1_15 (hN.sh sh16) (hN.sr sr16_4) (dkAt dk_X1_at 1 rfl) 4 rfl ?_
  refine x_iload_n C rfl rfl (dkAt dk_X1_at 2 rfl) 5 rfl ?_
  refine x_bipush C (v := (6 : Int32)) (by decide) (dkAt dk_X1_at 3 rfl) 7 rfl ?_
  refine x_imul C (dkAt dk_X1_at 4 rfl) 8 rfl ?_
  refine x_iload_n C rfl rfl (dkAt dk_X1_at 5 rfl) 9 rfl ?_
  refine x_iadd C (dkAt dk_X1_at 6 rfl) 10 rfl ?_
  refine x_lald C (hN.sh sh18) (dkAt dk_X1_at 7 rfl) 11 rfl hf (fun v1 hf => ?_)
  exact x_lret C E hf (by decide) (by decide) (dkAt dk_X1_at 8 rfl)
def f_X1_sumOf_L5 (Z : Nat) (p0 : Int32) (p1 : Int32) : Nat → Int64 → Int32 → Mem → Option (Int64 × Mem)
  | 0, _, _, _ => none
  | n + 1, x1, x2, M3 => (if p1 < x2 then some (x1, M3) else cl (f_X1_at Z M3 p0 x2) (fun v4 M5 => f_X1_sumOf_L5 Z p0 p1 n ((x1 * (1000 : Int64)) + v4) (x2 + (1 : Int32)) M5))
def f_X1_sumOf (Z : Nat) (M : Mem) (p0 : Int32) (p1 : Int32) : Option (Int64 × Mem) :=
  f_X1_sumOf_L5 Z p0 p1 Z (0 : Int64) (0 : Int32) M
set_option maxRecDepth 100000 in
theorem l_X1_sumOf_L5 {Γ : WC} {X : MX} (hN : HN Γ) (C : CX Γ X cX1_sumOf 6 RX1 (some .long) (rmL 1 0 0)) {rM : Int64 × Mem} (E : EndN Γ X (some (.long rM.1)) rM.2 0 0) {Z : Nat} {p0 : Int32} {p1 : Int32} : ∀ (n : Nat) (x1 : Int64) (x2 : Int32) (M3 : Mem), f_X1_sumOf_L5 Z p0 p1 n x1 x2 M3 = some rM → G Γ X M3 0 0 [some (.ref (wad Γ 16)), some (.int p0), some (.int p1), some (.long x1), none, some (.int x2)] [] 5 := by
  intro n
  induction n with
  | zero =>
    intro x1 x2 M3 hf
    have hf0 : (none : Option _) = some rM := hf
    cases hf0
  | succ n ih =>
    intro x1 x2 M3 hf
    rw [f_X1_sumOf_L5] at hf
    refine x_iload C rfl (dkAt dk_X1_sumOf 4 rfl) 7 rfl ?_
    refine x_iload_n C rfl rfl (dkAt dk_X1_sumOf 5 rfl) 8 rfl ?_
    refine x_icmp_gt C 31 (dkAt dk_X1_sumOf 6 rfl) 11 rfl (by decide) hf (fun hf => ?_) (fun hf => ?_)
    · refine x_lload_n C rfl rfl (dkAt dk_X1_sumOf 18 rfl) 32 rfl ?_
      exact x_lret C E hf (by decide) (by decide) (dkAt dk_X1_sumOf 19 rfl)
    · refine x_lload_n C rfl rfl (dkAt dk_X1_sumOf 7 rfl) 12 rfl ?_
      refine x_ldc2 C (v := (1000 : Int64)) cl_RX1_76 (dkAt dk_X1_sumOf 8 rfl) 15 rfl ?_
      refine x_lmul C (dkAt dk_X1_sumOf 9 rfl) 16 rfl ?_
      refine x_aload_n C rfl rfl (dkAt dk_X1_sumOf 10 rfl) 17 rfl ?_
      refine x_iload_n C rfl rfl (dkAt dk_X1_sumOf 11 rfl) 18 rfl ?_
      refine x_iload C rfl (dkAt dk_X1_sumOf 12 rfl) 20 rfl ?_
      obtain ⟨v4, M5, h6, hf⟩ := cl_inv hf
      refine x_cVl C (c_X1_at hN h6) mw_X1_at ln_RX1_78 mi_X1_at (hN.rc (ci := 1) sh16 rc1) (ro_of (by decide) (by decide) (by decide) (by decide)) rfl rfl (Nat.le_of_ble_eq_true rfl) (dkAt dk_X1_sumOf 13 rfl) 23 rfl 0 0 rfl rfl ?_
      refine x_ladd C (dkAt dk_X1_sumOf 14 rfl) 24 rfl ?_
      refine x_lstore_n C (L1 := [some (.ref (wad Γ 16)), some (.int p0), some (.int p1), some (.long ((x1 * (1000 : Int64)) + v4)), none, some (.int x2)]) (dkAt dk_X1_sumOf 15 rfl) 25 rfl rfl (by decide) rfl ?_
      refine x_iinc C (v := (x2 + (1 : Int32))) (L1 := [some (.ref (wad Γ 16)), some (.int p0), some (.int p1), some (.long ((x1 * (1000 : Int64)) + v4)), none, some (.int (x2 + (1 : Int32)))]) (dkAt dk_X1_sumOf 16 rfl) 28 rfl rfl rfl (by decide) rfl ?_
      refine x_goto C 5 (dkAt dk_X1_sumOf 17 rfl) (by decide) ?_
      exact G.weak (L := [some (.ref (wad Γ 16)), some (.int p0), some (.int p1), some (.long ((x1 * (1000 : Int64)) + v4)), none, some (.int (x2 + (1 : Int32)))]) ⟨rfl, rfl, rfl, rfl, rfl, trivial⟩ (ih _ _ _ hf)
set_option maxRecDepth 100000 in
theorem c_X1_sumOf {Γ : WC} (hN : HN Γ) {Z : Nat} {M : Mem} {p0 : Int32} {p1 : Int32} {rM : Int64 × Mem}  (hf : f_X1_sumOf Z M p0 p1 = some rM) : Ct Γ yX1_sumOf cX1_sumOf 6 (some .long) (rmL 1 0 0) [.ref (wad Γ 16), .int p0, .int p1] M (some (.long rM.1)) rM.2 := by
  refine mkN hN.1 (own := RX1) rfl (by decide) (Nat.le_of_ble_eq_true rfl) (fun X C E => ?_)
  change G Γ X M 0 0 [some (.ref (wad Γ 16)), some (.int p0), some (.int p1)] [] 0
  unfold f_X1_sumOf at hf
  refine x_lconst C (v := (0 : Int64)) (by decide) (dkAt dk_X1_sumOf 0 rfl) 1 rfl ?_
  refine x_lstore_n C (L1 := [some (.ref (wad Γ 16)), some (.int p0), some (.int p1), some (.long (0 : Int64))]) (dkAt dk_X1_sumOf 1 rfl) 2 rfl rfl (by decide) rfl ?_
  refine x_iconst C (v := (0 : Int32)) (by decide) (dkAt dk_X1_sumOf 2 rfl) 3 rfl ?_
  refine x_istore C (L1 := [some (.ref (wad Γ 16)), some (.int p0), some (.int p1), some (.long (0 : Int64)), none, some (.int (0 : Int32))]) (dkAt dk_X1_sumOf 3 rfl) 5 rfl (by decide) rfl ?_
  refine G.weak (L := [some (.ref (wad Γ 16)), some (.int p0), some (.int p1), some (.long (0 : Int64)), none, some (.int (0 : Int32))]) ⟨rfl, rfl, rfl, rfl, rfl, trivial⟩ ?_
  refine l_X1_sumOf_L5 hN C E Z _ _ _ hf
def f_X1_visitsOf (Z : Nat) (M : Mem) (p0 : Int32) : Option (Int64 × Mem) :=
  bd (gI M (16) 2) (fun v1 => cl (f_X1_sumOf Z M p0 v1) (fun v2 M3 => some (v2, M3)))
set_option maxRecDepth 100000 in
theorem c_X1_visitsOf {Γ : WC} (hN : HN Γ) {Z : Nat} {M : Mem} {p0 : Int32} {rM : Int64 × Mem}  (hf : f_X1_visitsOf Z M p0 = some rM) : Ct Γ yX1_visitsOf cX1_visitsOf 2 (some .long) (rmL 2 0 0) [.ref (wad Γ 16), .int p0] M (some (.long rM.1)) rM.2 := by
  refine mkN hN.1 (own := RX1) rfl (by decide) (Nat.le_of_ble_eq_true rfl) (fun X C E => ?_)
  change G Γ X M 0 0 [some (.ref (wad Γ 16)), some (.int p0)] [] 0
  unfold f_X1_visitsOf at hf
  refine x_aload_n C rfl rfl (dkAt dk_X1_visitsOf 0 rfl) 1 rfl ?_
  refine x_iload_n C rfl rfl (dkAt dk_X1_visitsOf 1 rfl) 2 rfl ?_
  refine x_aload_n C rfl rfl (dkAt dk_X1_visitsOf 2 rfl) 3 rfl ?_
  refine x_getI C lk_RX1_32 (hN.sh sh16) (dkAt dk_X1_visitsOf 3 rfl) 6 rfl hf (fun v1 hf => ?_)
  obtain ⟨v2, M3, h4, hf⟩ := cl_inv hf
  refine x_cVl C (c_X1_sumOf hN h4) mw_X1_sumOf ln_RX1_73 mi_X1_sumOf (hN.rc (ci := 1) sh16 rc1) (ro_of (by decide) (by decide) (by decide) (by decide)) rfl rfl (Nat.le_of_ble_eq_true rfl) (dkAt dk_X1_visitsOf 4 rfl) 9 rfl 0 0 rfl rfl ?_
  exact x_lret C E hf (by decide) (by decide) (dkAt dk_X1_visitsOf 5 rfl)
def f_X1_rankOf_L12 (Z : Nat) (p0 : Int32) (v1 : Int64) : Nat → Int32 → Int32 → Mem → Option (Int32 × Mem)
  | 0, _, _, _ => none
  | n + 1, x3, x4, M5 => bd (gI M5 (3) 0) (fun v6 => (if v6 ≤ x4 then some (x3, M5) else cl (f_X1_visitsOf Z M5 x4) (fun v7 M8 => (if v1 < v7 then f_X1_rankOf_L12 Z p0 v1 n (x3 + (1 : Int32)) (x4 + (1 : Int32)) M8 else (if v7 = v1 then (if p0 ≤ x4 then f_X1_rankOf_L12 Z p0 v1 n x3 (x4 + (1 : Int32)) M8 else f_X1_rankOf_L12 Z p0 v1 n (x3 + (1 : Int32)) (x4 + (1 : Int32)) M8) else f_X1_rankOf_L12 Z p0 v1 n x3 (x4 + (1 : Int32)) M8)))))
def f_X1_rankOf (Z : Nat) (M : Mem) (p0 : Int32) : Option (Int32 × Mem) :=
  cl (f_X1_visitsOf Z M p0) (fun v1 M2 => f_X1_rankOf_L12 Z p0 v1 Z (0 : Int32) (0 : Int32) M2)
set_option maxRecDepth 100000 in
theorem l_X1_rankOf_L12 {Γ : WC} {X : MX} (hN : HN Γ) (C : CX Γ X cX1_rankOf 8 RX1 (some .int) (rmL 3 0 0)) {rM : Int32 × Mem} (E : EndN Γ X (some (.int rM.1)) rM.2 0 0) {Z : Nat} {p0 : Int32} {v1 : Int64} : ∀ (n : Nat) (x3 : Int32) (x4 : Int32) (M5 : Mem), f_X1_rankOf_L12 Z p0 v1 n x3 x4 M5 = some rM → G Γ X M5 0 0 [some (.ref (wad Γ 16)), some (.int p0), some (.long v1), none, some (.int x3), some (.int x4)] [] 12 := by
  intro n
  induction n with
  | zero =>
    intro x3 x4 M5 hf
    have hf0 : (none : Option _) = some rM := hf
    cases hf0
  | succ n ih =>
    intro x3 x4 M5 hf
    rw [f_X1_rankOf_L12] at hf
    refine x_iload C rfl (dkAt dk_X1_rankOf 8 rfl) 14 rfl ?_
    refine x_aload_n C rfl rfl (dkAt dk_X1_rankOf 9 rfl) 15 rfl ?_
    refine x_getS C lk_RX1_24 (hN.sh sh16) (hN.sr sr16_0) (dkAt dk_X1_rankOf 10 rfl) 18 rfl ?_
    refine x_getI C lk_RX1_49 (hN.sh sh3) (dkAt dk_X1_rankOf 11 rfl) 21 rfl hf (fun v6 hf => ?_)
    refine x_icmp_ge C 61 (dkAt dk_X1_rankOf 12 rfl) 24 rfl (by decide) hf (fun hf => ?_) (fun hf => ?_)
    · refine x_iload C rfl (dkAt dk_X1_rankOf 31 rfl) 63 rfl ?_
      exact x_iret C E hf (by decide) (by decide) (dkAt dk_X1_rankOf 32 rfl)
    · refine x_aload_n C rfl rfl (dkAt dk_X1_rankOf 13 rfl) 25 rfl ?_
      refine x_iload C rfl (dkAt dk_X1_rankOf 14 rfl) 27 rfl ?_
      obtain ⟨v7, M8, h9, hf⟩ := cl_inv hf
      refine x_cVl C (c_X1_visitsOf hN h9) mw_X1_visitsOf ln_RX1_81 mi_X1_visitsOf (hN.rc (ci := 1) sh16 rc1) (ro_of (by decide) (by decide) (by decide) (by decide)) rfl rfl (Nat.le_of_ble_eq_true rfl) (dkAt dk_X1_rankOf 15 rfl) 30 rfl 0 0 rfl rfl ?_
      refine x_lstore C (L1 := [some (.ref (wad Γ 16)), some (.int p0), some (.long v1), none, some (.int x3), some (.int x4), some (.long v7)]) (dkAt dk_X1_rankOf 16 rfl) 32 rfl (by decide) rfl ?_
      refine x_lload C rfl (dkAt dk_X1_rankOf 17 rfl) 34 rfl ?_
      refine x_lload_n C rfl rfl (dkAt dk_X1_rankOf 18 rfl) 35 rfl ?_
      refine x_lcmp_gt C 52 (dkAt dk_X1_rankOf 19 rfl) 39 rfl (dkAt dk_X1_rankOf 20 rfl) (by decide) hf (fun hf => ?_) (fun hf => ?_)
      · refine x_iinc C (v := (x3 + (1 : Int32))) (L1 := [some (.ref (wad Γ 16)), some (.int p0), some (.long v1), none, some (.int (x3 + (1 : Int32))), some (.int x4), some (.long v7)]) (dkAt dk_X1_rankOf 28 rfl) 55 rfl rfl rfl (by decide) rfl ?_
        refine x_iinc C (v := (x4 + (1 : Int32))) (L1 := [some (.ref (wad Γ 16)), some (.int p0), some (.long v1), none, some (.int (x3 + (1 : Int32))), some (.int (x4 + (1 : Int32))), some (.long v7)]) (dkAt dk_X1_rankOf 29 rfl) 58 rfl rfl rfl (by decide) rfl ?_
        refine x_goto C 12 (dkAt dk_X1_rankOf 30 rfl) (by decide) ?_
        exact G.weak (L := [some (.ref (wad Γ 16)), some (.int p0), some (.long v1), none, some (.int (x3 + (1 : Int32))), some (.int (x4 + (1 : Int32)))]) ⟨rfl, rfl, rfl, rfl, rfl, trivial⟩ (ih _ _ _ hf)
      · refine x_lload C rfl (dkAt dk_X1_rankOf 21 rfl) 41 rfl ?_
        refine x_lload_n C rfl rfl (dkAt dk_X1_rankOf 22 rfl) 42 rfl ?_
        refine x_lcmp_ne C 55 (dkAt dk_X1_rankOf 23 rfl) 46 rfl (dkAt dk_X1_rankOf 24 rfl) (by decide) hf (fun hf => ?_) (fun hf => ?_)
        · refine x_iinc C (v := (x4 + (1 : Int32))) (L1 := [some (.ref (wad Γ 16)), some (.int p0), some (.long v1), none, some (.int x3), some (.int (x4 + (1 : Int32))), some (.long v7)]) (dkAt dk_X1_rankOf 29 rfl) 58 rfl rfl rfl (by decide) rfl ?_
          refine x_goto C 12 (dkAt dk_X1_rankOf 30 rfl) (by decide) ?_
          exact G.weak (L := [some (.ref (wad Γ 16)), some (.int p0), some (.long v1), none, some (.int x3), some (.int (x4 + (1 : Int32)))]) ⟨rfl, rfl, rfl, rfl, rfl, trivial⟩ (ih _ _ _ hf)
        · refine x_iload C rfl (dkAt dk_X1_rankOf 25 rfl) 48 rfl ?_
          refine x_iload_n C rfl rfl (dkAt dk_X1_rankOf 26 rfl) 49 rfl ?_
          refine x_icmp_ge C 55 (dkAt dk_X1_rankOf 27 rfl) 52 rfl (by decide) hf (fun hf => ?_) (fun hf => ?_)
          · refine x_iinc C (v := (x4 + (1 : Int32))) (L1 := [some (.ref (wad Γ 16)), some (.int p0), some (.long v1), none, some (.int x3), some (.int (x4 + (1 : Int32))), some (.long v7)]) (dkAt dk_X1_rankOf 29 rfl) 58 rfl rfl rfl (by decide) rfl ?_
            refine x_goto C 12 (dkAt dk_X1_rankOf 30 rfl) (by decide) ?_
            exact G.weak (L := [some (.ref (wad Γ 16)), some (.int p0), some (.long v1), none, some (.int x3), some (.int (x4 + (1 : Int32)))]) ⟨rfl, rfl, rfl, rfl, rfl, trivial⟩ (ih _ _ _ hf)
          · refine x_iinc C (v := (x3 + (1 : Int32))) (L1 := [some (.ref (wad Γ 16)), some (.int p0), some (.long v1), none, some (.int (x3 + (1 : Int32))), some (.int x4), some (.long v7)]) (dkAt dk_X1_rankOf 28 rfl) 55 rfl rfl rfl (by decide) rfl ?_
            refine x_iinc C (v := (x4 + (1 : Int32))) (L1 := [some (.ref (wad Γ 16)), some (.int p0), some (.long v1), none, some (.int (x3 + (1 : Int32))), some (.int (x4 + (1 : Int32))), some (.long v7)]) (dkAt dk_X1_rankOf 29 rfl) 58 rfl rfl rfl (by decide) rfl ?_
            refine x_goto C 12 (dkAt dk_X1_rankOf 30 rfl) (by decide) ?_
            exact G.weak (L := [some (.ref (wad Γ 16)), some (.int p0), some (.long v1), none, some (.int (x3 + (1 : Int32))), some (.int (x4 + (1 : Int32)))]) ⟨rfl, rfl, rfl, rfl, rfl, trivial⟩ (ih _ _ _ hf)
set_option maxRecDepth 100000 in
theorem c_X1_rankOf {Γ : WC} (hN : HN Γ) {Z : Nat} {M : Mem} {p0 : Int32} {rM : Int32 × Mem}  (hf : f_X1_rankOf Z M p0 = some rM) : Ct Γ yX1_rankOf cX1_rankOf 8 (some .int) (rmL 3 0 0) [.ref (wad Γ 16), .int p0] M (some (.int rM.1)) rM.2 := by
  refine mkN hN.1 (own := RX1) rfl (by decide) (Nat.le_of_ble_eq_true rfl) (fun X C E => ?_)
  change G Γ X M 0 0 [some (.ref (wad Γ 16)), some (.int p0)] [] 0
  unfold f_X1_rankOf at hf
  refine x_aload_n C rfl rfl (dkAt dk_X1_rankOf 0 rfl) 1 rfl ?_
  refine x_iload_n C rfl rfl (dkAt dk_X1_rankOf 1 rfl) 2 rfl ?_
  obtain ⟨v1, M2, h10, hf⟩ := cl_inv hf
  refine x_cVl C (c_X1_visitsOf hN h10) mw_X1_visitsOf ln_RX1_81 mi_X1_visitsOf (hN.rc (ci := 1) sh16 rc1) (ro_of (by decide) (by decide) (by decide) (by decide)) rfl rfl (Nat.le_of_ble_eq_true rfl) (dkAt dk_X1_rankOf 2 rfl) 5 rfl 0 0 rfl rfl ?_
  refine x_lstore_n C (L1 := [some (.ref (wad Γ 16)), some (.int p0), some (.long v1)]) (dkAt dk_X1_rankOf 3 rfl) 6 rfl rfl (by decide) rfl ?_
  refine x_iconst C (v := (0 : Int32)) (by decide) (dkAt dk_X1_rankOf 4 rfl) 7 rfl ?_
  refine x_istore C (L1 := [some (.ref (wad Γ 16)), some (.int p0), some (.long v1), none, some (.int (0 : Int32))]) (dkAt dk_X1_rankOf 5 rfl) 9 rfl (by decide) rfl ?_
  refine x_iconst C (v := (0 : Int32)) (by decide) (dkAt dk_X1_rankOf 6 rfl) 10 rfl ?_
  refine x_istore C (L1 := [some (.ref (wad Γ 16)), some (.int p0), some (.long v1), none, some (.int (0 : Int32)), some (.int (0 : Int32))]) (dkAt dk_X1_rankOf 7 rfl) 12 rfl (by decide) rfl ?_
  refine G.weak (L := [some (.ref (wad Γ 16)), some (.int p0), some (.long v1), none, some (.int (0 : Int32)), some (.int (0 : Int32))]) ⟨rfl, rfl, rfl, rfl, rfl, trivial⟩ ?_
  refine l_X1_rankOf_L12 hN C E Z _ _ _ hf
def f_X1_hitOf_L23 (Z : Nat) (p0 : Int32) : Nat → Int64 → Int32 → Mem → Option (Int64 × Mem)
  | 0, _, _, _ => none
  | n + 1, x5, x6, M7 => bd (gI M7 (16) 2) (fun v8 => (if v8 < x6 then some (x5, M7) else rdL M7 19 36 ((x6 * (6 : Int32)) + p0) (fun v9 => wrL M7 19 36 ((x6 * (6 : Int32)) + p0) (0 : Int64) (fun M10 => bd (gI M10 (16) 2) (fun v11 => jn (fun (t12 : Mem) => f_X1_hitOf_L23 Z p0 n ((x5 * (1000 : Int64)) + v9) (x6 + (1 : Int32)) t12) (fun j13 => (if v11 ≤ x6 then j13 M10 else cl (f_X1_spread Z M10 (19) x6) (fun v14 M15 => j13 M15))))))))
def f_X1_hitOf (Z : Nat) (M : Mem) (p0 : Int32) : Option (Int64 × Mem) :=
  cl (f_J7_fill_d0a16 Z M (19) 36 (0 : Int64)) (fun v1 M2 => bd (gI M2 (16) 1) (fun v3 => wrL M2 19 36 v3 (1 : Int64) (fun M4 => f_X1_hitOf_L23 Z p0 Z (0 : Int64) (0 : Int32) M4)))
set_option maxRecDepth 100000 in
theorem l_X1_hitOf_L23 {Γ : WC} {X : MX} (hN : HN Γ) (C : CX Γ X cX1_hitOf 6 RX1 (some .long) (rmL 2 0 0)) {rM : Int64 × Mem} (E : EndN Γ X (some (.long rM.1)) rM.2 0 0) {Z : Nat} {p0 : Int32} : ∀ (n : Nat) (x5 : Int64) (x6 : Int32) (M7 : Mem), f_X1_hitOf_L23 Z p0 n x5 x6 M7 = some rM → G Γ X M7 0 0 [some (.ref (wad Γ 16)), some (.int p0), some (.long x5), none, some (.int x6)] [] 23 := by
  intro n
  induction n with
  | zero =>
    intro x5 x6 M7 hf
    have hf0 : (none : Option _) = some rM := hf
    cases hf0
  | succ n ih =>
    intro x5 x6 M7 hf
    rw [f_X1_hitOf_L23] at hf
    refine x_iload C rfl (dkAt dk_X1_hitOf 14 rfl) 25 rfl ?_
    refine x_aload_n C rfl rfl (dkAt dk_X1_hitOf 15 rfl) 26 rfl ?_
    refine x_getI C lk_RX1_32 (hN.sh sh16) (dkAt dk_X1_hitOf 16 rfl) 29 rfl hf (fun v8 hf => ?_)
    refine x_icmp_gt C 88 (dkAt dk_X1_hitOf 17 rfl) 32 rfl (by decide) hf (fun hf => ?_) (fun hf => ?_)
    · refine x_lload_n C rfl rfl (dkAt dk_X1_hitOf 49 rfl) 89 rfl ?_
      exact x_lret C E hf (by decide) (by decide) (dkAt dk_X1_hitOf 50 rfl)
    · refine x_iload C rfl (dkAt dk_X1_hitOf 18 rfl) 34 rfl ?_
      refine x_bipush C (v := (6 : Int32)) (by decide) (dkAt dk_X1_hitOf 19 rfl) 36 rfl ?_
      refine x_imul C (dkAt dk_X1_hitOf 20 rfl) 37 rfl ?_
      refine x_iload_n C rfl rfl (dkAt dk_X1_hitOf 21 rfl) 38 rfl ?_
      refine x_iadd C (dkAt dk_X1_hitOf 22 rfl) 39 rfl ?_
      refine x_istore C (L1 := [some (.ref (wad Γ 16)), some (.int p0), some (.long x5), none, some (.int x6), some (.int ((x6 * (6 : Int32)) + p0))]) (dkAt dk_X1_hitOf 23 rfl) 41 rfl (by decide) rfl ?_
      refine x_lload_n C rfl rfl (dkAt dk_X1_hitOf 24 rfl) 42 rfl ?_
      refine x_ldc2 C (v := (1000 : Int64)) cl_RX1_76 (dkAt dk_X1_hitOf 25 rfl) 45 rfl ?_
      refine x_lmul C (dkAt dk_X1_hitOf 26 rfl) 46 rfl ?_
      refine x_aload_n C rfl rfl (dkAt dk_X1_hitOf 27 rfl) 47 rfl ?_
      refine x_getS C lk_RX1_18 (hN.sh sh16) (hN.sr sr16_5) (dkAt dk_X1_hitOf 28 rfl) 50 rfl ?_
      refine x_iload C rfl (dkAt dk_X1_hitOf 29 rfl) 52 rfl ?_
      refine x_lald C (hN.sh sh19) (dkAt dk_X1_hitOf 30 rfl) 53 rfl hf (fun v9 hf => ?_)
      refine x_ladd C (dkAt dk_X1_hitOf 31 rfl) 54 rfl ?_
      refine x_lstore_n C (L1 := [some (.ref (wad Γ 16)), some (.int p0), some (.long ((x5 * (1000 : Int64)) + v9)), none, some (.int x6), some (.int ((x6 * (6 : Int32)) + p0))]) (dkAt dk_X1_hitOf 32 rfl) 55 rfl rfl (by decide) rfl ?_
      refine x_aload_n C rfl rfl (dkAt dk_X1_hitOf 33 rfl) 56 rfl ?_
      refine x_getS C lk_RX1_18 (hN.sh sh16) (hN.sr sr16_5) (dkAt dk_X1_hitOf 34 rfl) 59 rfl ?_
      refine x_iload C rfl (dkAt dk_X1_hitOf 35 rfl) 61 rfl ?_
      refine x_lconst C (v := (0 : Int64)) (by decide) (dkAt dk_X1_hitOf 36 rfl) 62 rfl ?_
      refine x_last C (hN.sh sh19) (dkAt dk_X1_hitOf 37 rfl) 63 rfl hf (fun M10 hf => ?_)
      refine x_iload C rfl (dkAt dk_X1_hitOf 38 rfl) 65 rfl ?_
      refine x_aload_n C rfl rfl (dkAt dk_X1_hitOf 39 rfl) 66 rfl ?_
      refine x_getI C lk_RX1_32 (hN.sh sh16) (dkAt dk_X1_hitOf 40 rfl) 69 rfl hf (fun v11 hf => ?_)
      refine x_join hf (fun t12 => G Γ X t12 0 0 [some (.ref (wad Γ 16)), some (.int p0), some (.long ((x5 * (1000 : Int64)) + v9)), none, some (.int x6)] [] 82) (fun t12 hf => ?_) (fun j13 hj13 hf => ?_)
      · refine x_iinc C (v := (x6 + (1 : Int32))) (L1 := [some (.ref (wad Γ 16)), some (.int p0), some (.long ((x5 * (1000 : Int64)) + v9)), none, some (.int (x6 + (1 : Int32)))]) (dkAt dk_X1_hitOf 47 rfl) 85 rfl rfl rfl (by decide) rfl ?_
        refine x_goto C 23 (dkAt dk_X1_hitOf 48 rfl) (by decide) ?_
        exact G.weak (L := [some (.ref (wad Γ 16)), some (.int p0), some (.long ((x5 * (1000 : Int64)) + v9)), none, some (.int (x6 + (1 : Int32)))]) ⟨rfl, rfl, rfl, rfl, trivial⟩ (ih _ _ _ hf)
      · refine x_icmp_ge C 82 (dkAt dk_X1_hitOf 41 rfl) 72 rfl (by decide) hf (fun hf => ?_) (fun hf => ?_)
        · exact G.weak (L := [some (.ref (wad Γ 16)), some (.int p0), some (.long ((x5 * (1000 : Int64)) + v9)), none, some (.int x6)]) ⟨rfl, rfl, rfl, rfl, trivial⟩ (hj13 _ hf)
        · refine x_aload_n C rfl rfl (dkAt dk_X1_hitOf 42 rfl) 73 rfl ?_
          refine x_aload_n C rfl rfl (dkAt dk_X1_hitOf 43 rfl) 74 rfl ?_
          refine x_getS C lk_RX1_18 (hN.sh sh16) (hN.sr sr16_5) (dkAt dk_X1_hitOf 44 rfl) 77 rfl ?_
          refine x_iload C rfl (dkAt dk_X1_hitOf 45 rfl) 79 rfl ?_
          obtain ⟨v14, M15, h16, hf⟩ := cl_inv hf
          refine x_cVv C (c_X1_spread hN sh19 h16) mw_X1_spread ln_RX1_45 mi_X1_spread (hN.rc (ci := 1) sh16 rc1) (ro_of (by decide) (by decide) (by decide) (by decide)) rfl rfl (Nat.le_of_ble_eq_true rfl) (dkAt dk_X1_hitOf 46 rfl) 82 rfl 0 0 rfl rfl ?_
          exact G.weak (L := [some (.ref (wad Γ 16)), some (.int p0), some (.long ((x5 * (1000 : Int64)) + v9)), none, some (.int x6)]) ⟨rfl, rfl, rfl, rfl, trivial⟩ (hj13 _ hf)
set_option maxRecDepth 100000 in
theorem c_X1_hitOf {Γ : WC} (hN : HN Γ) {Z : Nat} {M : Mem} {p0 : Int32} {rM : Int64 × Mem}  (hf : f_X1_hitOf Z M p0 = some rM) : Ct Γ yX1_hitOf cX1_hitOf 6 (some .long) (rmL 2 0 0) [.ref (wad Γ 16), .int p0] M (some (.long rM.1)) rM.2 := by
  refine mkN hN.1 (own := RX1) rfl (by decide) (Nat.le_of_ble_eq_true rfl) (fun X C E => ?_)
  change G Γ X M 0 0 [some (.ref (wad Γ 16)), some (.int p0)] [] 0
  unfold f_X1_hitOf at hf
  refine x_aload_n C rfl rfl (dkAt dk_X1_hitOf 0 rfl) 1 rfl ?_
  refine x_getS C lk_RX1_18 (hN.sh sh16) (hN.sr sr16_5) (dkAt dk_X1_hitOf 1 rfl) 4 rfl ?_
  refine x_lconst C (v := (0 : Int64)) (by decide) (dkAt dk_X1_hitOf 2 rfl) 5 rfl ?_
  obtain ⟨v1, M2, h17, hf⟩ := cl_inv hf
  refine x_cSv C (c_J7_fill_d0a16 hN sh19 h17) mw_J7_fill_d0a16 ln_RX1_39 ms_J7_fill_d0a16 (ro_of (by decide) (by decide) (by decide) (by decide)) rfl rfl (Nat.le_of_ble_eq_true rfl) (dkAt dk_X1_hitOf 3 rfl) 8 rfl 0 0 rfl rfl ?_
  refine x_aload_n C rfl rfl (dkAt dk_X1_hitOf 4 rfl) 9 rfl ?_
  refine x_getS C lk_RX1_18 (hN.sh sh16) (hN.sr sr16_5) (dkAt dk_X1_hitOf 5 rfl) 12 rfl ?_
  refine x_aload_n C rfl rfl (dkAt dk_X1_hitOf 6 rfl) 13 rfl ?_
  refine x_getI C lk_RX1_28 (hN.sh sh16) (dkAt dk_X1_hitOf 7 rfl) 16 rfl hf (fun v3 hf => ?_)
  refine x_lconst C (v := (1 : Int64)) (by decide) (dkAt dk_X1_hitOf 8 rfl) 17 rfl ?_
  refine x_last C (hN.sh sh19) (dkAt dk_X1_hitOf 9 rfl) 18 rfl hf (fun M4 hf => ?_)
  refine x_lconst C (v := (0 : Int64)) (by decide) (dkAt dk_X1_hitOf 10 rfl) 19 rfl ?_
  refine x_lstore_n C (L1 := [some (.ref (wad Γ 16)), some (.int p0), some (.long (0 : Int64))]) (dkAt dk_X1_hitOf 11 rfl) 20 rfl rfl (by decide) rfl ?_
  refine x_iconst C (v := (0 : Int32)) (by decide) (dkAt dk_X1_hitOf 12 rfl) 21 rfl ?_
  refine x_istore C (L1 := [some (.ref (wad Γ 16)), some (.int p0), some (.long (0 : Int64)), none, some (.int (0 : Int32))]) (dkAt dk_X1_hitOf 13 rfl) 23 rfl (by decide) rfl ?_
  refine G.weak (L := [some (.ref (wad Γ 16)), some (.int p0), some (.long (0 : Int64)), none, some (.int (0 : Int32))]) ⟨rfl, rfl, rfl, rfl, trivial⟩ ?_
  refine l_X1_hitOf_L23 hN C E Z _ _ _ hf
def f_X1_gainOf_L23 (Z : Nat) (w : Nat) (x1 : Int64) (x2 : Int32) (k : Int64 → Mem → Option (Int64 × Mem)) : Nat → Int64 → Int32 → Mem → Option (Int64 × Mem)
  | 0, _, _, _ => none
  | n + 1, x5, x6, M7 => rdI M7 4 6 x2 (fun v8 => (if v8 ≤ x6 then k x5 M7 else cl (f_X11_rowOf Z M7 x2 x6) (fun v9 M10 => rdI M10 w 18 v9 (fun v11 => rdI M10 5 18 v9 (fun v12 => f_X1_gainOf_L23 Z w x1 x2 k n (x5 + (v11 * v12).toInt64) (x6 + (1 : Int32)) M10)))))
def f_X1_gainOf_L5 (Z : Nat) (w : Nat) : Nat → Int64 → Int32 → Mem → Option (Int64 × Mem)
  | 0, _, _, _ => none
  | n + 1, x1, x2, M3 => bd (gI M3 (3) 0) (fun v4 => (if v4 ≤ x2 then some (x1, M3) else f_X1_gainOf_L23 Z w x1 x2 (fun (y14 : Int64) (M15 : Mem) => bd (gI M15 (16) 2) (fun v16 => cl (f_X1_sumOf Z M15 x2 (v16 - (1 : Int32))) (fun v17 M18 => f_X1_gainOf_L5 Z w n (x1 + (v17 * y14)) (x2 + (1 : Int32)) M18))) Z (0 : Int64) (0 : Int32) M3))
def f_X1_gainOf (Z : Nat) (M : Mem) (w : Nat) : Option (Int64 × Mem) :=
  f_X1_gainOf_L5 Z w Z (0 : Int64) (0 : Int32) M
set_option maxRecDepth 100000 in
theorem l_X1_gainOf_L23 {Γ : WC} {X : MX} (hN : HN Γ) (C : CX Γ X cX1_gainOf 9 RX1 (some .long) (rmL 2 0 0)) {rM : Int64 × Mem} (E : EndN Γ X (some (.long rM.1)) rM.2 0 0) {Z : Nat} {w : Nat} {x1 : Int64} {x2 : Int32} (h_w : SH[w]? = some (0, 18)) {k : Int64 → Mem → Option (Int64 × Mem)} (hk : ∀ (a5 : Int64) (Mx : Mem), k a5 Mx = some rM → G Γ X Mx 0 0 [some (.ref (wad Γ 16)), some (.ref (wad Γ w)), some (.long x1), none, some (.int x2), some (.long a5)] [] 74) : ∀ (n : Nat) (x5 : Int64) (x6 : Int32) (M7 : Mem), f_X1_gainOf_L23 Z w x1 x2 k n x5 x6 M7 = some rM → G Γ X M7 0 0 [some (.ref (wad Γ 16)), some (.ref (wad Γ w)), some (.long x1), none, some (.int x2), some (.long x5), none, some (.int x6)] [] 23 := by
  intro n
  induction n with
  | zero =>
    intro x5 x6 M7 hf
    have hf0 : (none : Option _) = some rM := hf
    cases hf0
  | succ n ih =>
    intro x5 x6 M7 hf
    rw [f_X1_gainOf_L23] at hf
    refine x_iload C rfl (dkAt dk_X1_gainOf 13 rfl) 25 rfl ?_
    refine x_aload_n C rfl rfl (dkAt dk_X1_gainOf 14 rfl) 26 rfl ?_
    refine x_getS C lk_RX1_24 (hN.sh sh16) (hN.sr sr16_0) (dkAt dk_X1_gainOf 15 rfl) 29 rfl ?_
    refine x_getS C lk_RX1_54 (hN.sh sh3) (hN.sr sr3_2) (dkAt dk_X1_gainOf 16 rfl) 32 rfl ?_
    refine x_iload C rfl (dkAt dk_X1_gainOf 17 rfl) 34 rfl ?_
    refine x_iald C (hN.sh sh4) (dkAt dk_X1_gainOf 18 rfl) 35 rfl hf (fun v8 hf => ?_)
    refine x_icmp_ge C 74 (dkAt dk_X1_gainOf 19 rfl) 38 rfl (by decide) hf (fun hf => ?_) (fun hf => ?_)
    · exact G.weak (L := [some (.ref (wad Γ 16)), some (.ref (wad Γ w)), some (.long x1), none, some (.int x2), some (.long x5)]) ⟨rfl, rfl, rfl, rfl, rfl, trivial⟩ (hk _ _ hf)
    · refine x_iload C rfl (dkAt dk_X1_gainOf 20 rfl) 40 rfl ?_
      refine x_iload C rfl (dkAt dk_X1_gainOf 21 rfl) 42 rfl ?_
      obtain ⟨v9, M10, h13, hf⟩ := cl_inv hf
      refine x_cNi C (c_X11_rowOf hN h13) mw_X11_rowOf ln_RX1_58 ms_X11_rowOf (ro_of (by decide) (by decide) (by decide) (by decide)) rfl rfl (Nat.le_of_ble_eq_true rfl) (dkAt dk_X1_gainOf 22 rfl) 45 rfl 0 0 rfl rfl ?_
      refine x_istore C (L1 := [some (.ref (wad Γ 16)), some (.ref (wad Γ w)), some (.long x1), none, some (.int x2), some (.long x5), none, some (.int x6), some (.int v9)]) (dkAt dk_X1_gainOf 23 rfl) 47 rfl (by decide) rfl ?_
      refine x_lload C rfl (dkAt dk_X1_gainOf 24 rfl) 49 rfl ?_
      refine x_aload_n C rfl rfl (dkAt dk_X1_gainOf 25 rfl) 50 rfl ?_
      refine x_iload C rfl (dkAt dk_X1_gainOf 26 rfl) 52 rfl ?_
      refine x_iald C (hN.sh h_w) (dkAt dk_X1_gainOf 27 rfl) 53 rfl hf (fun v11 hf => ?_)
      refine x_aload_n C rfl rfl (dkAt dk_X1_gainOf 28 rfl) 54 rfl ?_
      refine x_getS C lk_RX1_24 (hN.sh sh16) (hN.sr sr16_0) (dkAt dk_X1_gainOf 29 rfl) 57 rfl ?_
      refine x_getS C lk_RX1_85 (hN.sh sh3) (hN.sr sr3_3) (dkAt dk_X1_gainOf 30 rfl) 60 rfl ?_
      refine x_iload C rfl (dkAt dk_X1_gainOf 31 rfl) 62 rfl ?_
      refine x_iald C (hN.sh sh5) (dkAt dk_X1_gainOf 32 rfl) 63 rfl hf (fun v12 hf => ?_)
      refine x_imul C (dkAt dk_X1_gainOf 33 rfl) 64 rfl ?_
      refine x_i2l C (dkAt dk_X1_gainOf 34 rfl) 65 rfl ?_
      refine x_ladd C (dkAt dk_X1_gainOf 35 rfl) 66 rfl ?_
      refine x_lstore C (L1 := [some (.ref (wad Γ 16)), some (.ref (wad Γ w)), some (.long x1), none, some (.int x2), some (.long (x5 + (v11 * v12).toInt64)), none, some (.int x6), some (.int v9)]) (dkAt dk_X1_gainOf 36 rfl) 68 rfl (by decide) rfl ?_
      refine x_iinc C (v := (x6 + (1 : Int32))) (L1 := [some (.ref (wad Γ 16)), some (.ref (wad Γ w)), some (.long x1), none, some (.int x2), some (.long (x5 + (v11 * v12).toInt64)), none, some (.int (x6 + (1 : Int32))), some (.int v9)]) (dkAt dk_X1_gainOf 37 rfl) 71 rfl rfl rfl (by decide) rfl ?_
      refine x_goto C 23 (dkAt dk_X1_gainOf 38 rfl) (by decide) ?_
      exact G.weak (L := [some (.ref (wad Γ 16)), some (.ref (wad Γ w)), some (.long x1), none, some (.int x2), some (.long (x5 + (v11 * v12).toInt64)), none, some (.int (x6 + (1 : Int32)))]) ⟨rfl, rfl, rfl, rfl, rfl, rfl, trivial⟩ (ih _ _ _ hf)
set_option maxRecDepth 100000 in
theorem l_X1_gainOf_L5 {Γ : WC} {X : MX} (hN : HN Γ) (C : CX Γ X cX1_gainOf 9 RX1 (some .long) (rmL 2 0 0)) {rM : Int64 × Mem} (E : EndN Γ X (some (.long rM.1)) rM.2 0 0) {Z : Nat} {w : Nat} (h_w : SH[w]? = some (0, 18)) : ∀ (n : Nat) (x1 : Int64) (x2 : Int32) (M3 : Mem), f_X1_gainOf_L5 Z w n x1 x2 M3 = some rM → G Γ X M3 0 0 [some (.ref (wad Γ 16)), some (.ref (wad Γ w)), some (.long x1), none, some (.int x2)] [] 5 := by
  intro n
  induction n with
  | zero =>
    intro x1 x2 M3 hf
    have hf0 : (none : Option _) = some rM := hf
    cases hf0
  | succ n ih =>
    intro x1 x2 M3 hf
    rw [f_X1_gainOf_L5] at hf
    refine x_iload C rfl (dkAt dk_X1_gainOf 4 rfl) 7 rfl ?_
    refine x_aload_n C rfl rfl (dkAt dk_X1_gainOf 5 rfl) 8 rfl ?_
    refine x_getS C lk_RX1_24 (hN.sh sh16) (hN.sr sr16_0) (dkAt dk_X1_gainOf 6 rfl) 11 rfl ?_
    refine x_getI C lk_RX1_49 (hN.sh sh3) (dkAt dk_X1_gainOf 7 rfl) 14 rfl hf (fun v4 hf => ?_)
    refine x_icmp_ge C 98 (dkAt dk_X1_gainOf 8 rfl) 17 rfl (by decide) hf (fun hf => ?_) (fun hf => ?_)
    · refine x_lload_n C rfl rfl (dkAt dk_X1_gainOf 53 rfl) 99 rfl ?_
      exact x_lret C E hf (by decide) (by decide) (dkAt dk_X1_gainOf 54 rfl)
    · refine x_lconst C (v := (0 : Int64)) (by decide) (dkAt dk_X1_gainOf 9 rfl) 18 rfl ?_
      refine x_lstore C (L1 := [some (.ref (wad Γ 16)), some (.ref (wad Γ w)), some (.long x1), none, some (.int x2), some (.long (0 : Int64))]) (dkAt dk_X1_gainOf 10 rfl) 20 rfl (by decide) rfl ?_
      refine x_iconst C (v := (0 : Int32)) (by decide) (dkAt dk_X1_gainOf 11 rfl) 21 rfl ?_
      refine x_istore C (L1 := [some (.ref (wad Γ 16)), some (.ref (wad Γ w)), some (.long x1), none, some (.int x2), some (.long (0 : Int64)), none, some (.int (0 : Int32))]) (dkAt dk_X1_gainOf 12 rfl) 23 rfl (by decide) rfl ?_
      refine G.weak (L := [some (.ref (wad Γ 16)), some (.ref (wad Γ w)), some (.long x1), none, some (.int x2), some (.long (0 : Int64)), none, some (.int (0 : Int32))]) ⟨rfl, rfl, rfl, rfl, rfl, rfl, trivial⟩ ?_
      refine l_X1_gainOf_L23 hN C E h_w ?_ Z _ _ _ hf
      intro y14 M15 hf
      refine x_lload_n C rfl rfl (dkAt dk_X1_gainOf 39 rfl) 75 rfl ?_
      refine x_aload_n C rfl rfl (dkAt dk_X1_gainOf 40 rfl) 76 rfl ?_
      refine x_iload C rfl (dkAt dk_X1_gainOf 41 rfl) 78 rfl ?_
      refine x_aload_n C rfl rfl (dkAt dk_X1_gainOf 42 rfl) 79 rfl ?_
      refine x_getI C lk_RX1_32 (hN.sh sh16) (dkAt dk_X1_gainOf 43 rfl) 82 rfl hf (fun v16 hf => ?_)
      refine x_iconst C (v := (1 : Int32)) (by decide) (dkAt dk_X1_gainOf 44 rfl) 83 rfl ?_
      refine x_isub C (dkAt dk_X1_gainOf 45 rfl) 84 rfl ?_
      obtain ⟨v17, M18, h19, hf⟩ := cl_inv hf
      refine x_cVl C (c_X1_sumOf hN h19) mw_X1_sumOf ln_RX1_73 mi_X1_sumOf (hN.rc (ci := 1) sh16 rc1) (ro_of (by decide) (by decide) (by decide) (by decide)) rfl rfl (Nat.le_of_ble_eq_true rfl) (dkAt dk_X1_gainOf 46 rfl) 87 rfl 0 0 rfl rfl ?_
      refine x_lload C rfl (dkAt dk_X1_gainOf 47 rfl) 89 rfl ?_
      refine x_lmul C (dkAt dk_X1_gainOf 48 rfl) 90 rfl ?_
      refine x_ladd C (dkAt dk_X1_gainOf 49 rfl) 91 rfl ?_
      refine x_lstore_n C (L1 := [some (.ref (wad Γ 16)), some (.ref (wad Γ w)), some (.long (x1 + (v17 * y14))), none, some (.int x2), some (.long y14)]) (dkAt dk_X1_gainOf 50 rfl) 92 rfl rfl (by decide) rfl ?_
      refine x_iinc C (v := (x2 + (1 : Int32))) (L1 := [some (.ref (wad Γ 16)), some (.ref (wad Γ w)), some (.long (x1 + (v17 * y14))), none, some (.int (x2 + (1 : Int32))), some (.long y14)]) (dkAt dk_X1_gainOf 51 rfl) 95 rfl rfl rfl (by decide) rfl ?_
      refine x_goto C 5 (dkAt dk_X1_gainOf 52 rfl) (by decide) ?_
      exact G.weak (L := [some (.ref (wad Γ 16)), some (.ref (wad Γ w)), some (.long (x1 + (v17 * y14))), none, some (.int (x2 + (1 : Int32)))]) ⟨rfl, rfl, rfl, rfl, trivial⟩ (ih _ _ _ hf)
set_option maxRecDepth 100000 in
theorem c_X1_gainOf {Γ : WC} (hN : HN Γ) {Z : Nat} {M : Mem} {w : Nat} {rM : Int64 × Mem} (h_w : SH[w]? = some (0, 18)) (hf : f_X1_gainOf Z M w = some rM) : Ct Γ yX1_gainOf cX1_gainOf 9 (some .long) (rmL 2 0 0) [.ref (wad Γ 16), .ref (wad Γ w)] M (some (.long rM.1)) rM.2 := by
  refine mkN hN.1 (own := RX1) rfl (by decide) (Nat.le_of_ble_eq_true rfl) (fun X C E => ?_)
  change G Γ X M 0 0 [some (.ref (wad Γ 16)), some (.ref (wad Γ w))] [] 0
  unfold f_X1_gainOf at hf
  refine x_lconst C (v := (0 : Int64)) (by decide) (dkAt dk_X1_gainOf 0 rfl) 1 rfl ?_
  refine x_lstore_n C (L1 := [some (.ref (wad Γ 16)), some (.ref (wad Γ w)), some (.long (0 : Int64))]) (dkAt dk_X1_gainOf 1 rfl) 2 rfl rfl (by decide) rfl ?_
  refine x_iconst C (v := (0 : Int32)) (by decide) (dkAt dk_X1_gainOf 2 rfl) 3 rfl ?_
  refine x_istore C (L1 := [some (.ref (wad Γ 16)), some (.ref (wad Γ w)), some (.long (0 : Int64)), none, some (.int (0 : Int32))]) (dkAt dk_X1_gainOf 3 rfl) 5 rfl (by decide) rfl ?_
  refine G.weak (L := [some (.ref (wad Γ 16)), some (.ref (wad Γ w)), some (.long (0 : Int64)), none, some (.int (0 : Int32))]) ⟨rfl, rfl, rfl, rfl, trivial⟩ ?_
  refine l_X1_gainOf_L5 hN C E h_w Z _ _ _ hf
def f_X1_usedOf_L23 (Z : Nat) (w : Nat) (p1 : Int32) (x1 : Int64) (x2 : Int32) (k : Int64 → Mem → Option (Int64 × Mem)) : Nat → Int64 → Int32 → Mem → Option (Int64 × Mem)
  | 0, _, _, _ => none
  | n + 1, x5, x6, M7 => rdI M7 4 6 x2 (fun v8 => (if v8 ≤ x6 then k x5 M7 else cl (f_X11_rowOf Z M7 x2 x6) (fun v9 M10 => rdI M10 w 18 v9 (fun v11 => cl (f_X0_amountOf Z M10 (3) v9 p1) (fun v12 M13 => f_X1_usedOf_L23 Z w p1 x1 x2 k n (x5 + (v11 * v12).toInt64) (x6 + (1 : Int32)) M13)))))
def f_X1_usedOf_L5 (Z : Nat) (w : Nat) (p1 : Int32) : Nat → Int64 → Int32 → Mem → Option (Int64 × Mem)
  | 0, _, _, _ => none
  | n + 1, x1, x2, M3 => bd (gI M3 (3) 0) (fun v4 => (if v4 ≤ x2 then some (x1, M3) else f_X1_usedOf_L23 Z w p1 x1 x2 (fun (y16 : Int64) (M17 : Mem) => bd (gI M17 (16) 2) (fun v18 => cl (f_X1_sumOf Z M17 x2 (v18 - (1 : Int32))) (fun v19 M20 => f_X1_usedOf_L5 Z w p1 n (x1 + (v19 * y16)) (x2 + (1 : Int32)) M20))) Z (0 : Int64) (0 : Int32) M3))
def f_X1_usedOf (Z : Nat) (M : Mem) (w : Nat) (p1 : Int32) : Option (Int64 × Mem) :=
  f_X1_usedOf_L5 Z w p1 Z (0 : Int64) (0 : Int32) M
set_option maxRecDepth 100000 in
theorem l_X1_usedOf_L23 {Γ : WC} {X : MX} (hN : HN Γ) (C : CX Γ X cX1_usedOf 10 RX1 (some .long) (rmL 2 0 0)) {rM : Int64 × Mem} (E : EndN Γ X (some (.long rM.1)) rM.2 0 0) {Z : Nat} {w : Nat} {p1 : Int32} {x1 : Int64} {x2 : Int32} (h_w : SH[w]? = some (0, 18)) {k : Int64 → Mem → Option (Int64 × Mem)} (hk : ∀ (a6 : Int64) (Mx : Mem), k a6 Mx = some rM → G Γ X Mx 0 0 [some (.ref (wad Γ 16)), some (.ref (wad Γ w)), some (.int p1), some (.long x1), none, some (.int x2), some (.long a6)] [] 74) : ∀ (n : Nat) (x5 : Int64) (x6 : Int32) (M7 : Mem), f_X1_usedOf_L23 Z w p1 x1 x2 k n x5 x6 M7 = some rM → G Γ X M7 0 0 [some (.ref (wad Γ 16)), some (.ref (wad Γ w)), some (.int p1), some (.long x1), none, some (.int x2), some (.long x5), none, some (.int x6)] [] 23 := by
  intro n
  induction n with
  | zero =>
    intro x5 x6 M7 hf
    have hf0 : (none : Option _) = some rM := hf
    cases hf0
  | succ n ih =>
    intro x5 x6 M7 hf
    rw [f_X1_usedOf_L23] at hf
    refine x_iload C rfl (dkAt dk_X1_usedOf 13 rfl) 25 rfl ?_
    refine x_aload_n C rfl rfl (dkAt dk_X1_usedOf 14 rfl) 26 rfl ?_
    refine x_getS C lk_RX1_24 (hN.sh sh16) (hN.sr sr16_0) (dkAt dk_X1_usedOf 15 rfl) 29 rfl ?_
    refine x_getS C lk_RX1_54 (hN.sh sh3) (hN.sr sr3_2) (dkAt dk_X1_usedOf 16 rfl) 32 rfl ?_
    refine x_iload C rfl (dkAt dk_X1_usedOf 17 rfl) 34 rfl ?_
    refine x_iald C (hN.sh sh4) (dkAt dk_X1_usedOf 18 rfl) 35 rfl hf (fun v8 hf => ?_)
    refine x_icmp_ge C 74 (dkAt dk_X1_usedOf 19 rfl) 38 rfl (by decide) hf (fun hf => ?_) (fun hf => ?_)
    · exact G.weak (L := [some (.ref (wad Γ 16)), some (.ref (wad Γ w)), some (.int p1), some (.long x1), none, some (.int x2), some (.long x5)]) ⟨rfl, rfl, rfl, rfl, rfl, rfl, trivial⟩ (hk _ _ hf)
    · refine x_iload C rfl (dkAt dk_X1_usedOf 20 rfl) 40 rfl ?_
      refine x_iload C rfl (dkAt dk_X1_usedOf 21 rfl) 42 rfl ?_
      obtain ⟨v9, M10, h15, hf⟩ := cl_inv hf
      refine x_cNi C (c_X11_rowOf hN h15) mw_X11_rowOf ln_RX1_58 ms_X11_rowOf (ro_of (by decide) (by decide) (by decide) (by decide)) rfl rfl (Nat.le_of_ble_eq_true rfl) (dkAt dk_X1_usedOf 22 rfl) 45 rfl 0 0 rfl rfl ?_
      refine x_istore C (L1 := [some (.ref (wad Γ 16)), some (.ref (wad Γ w)), some (.int p1), some (.long x1), none, some (.int x2), some (.long x5), none, some (.int x6), some (.int v9)]) (dkAt dk_X1_usedOf 23 rfl) 47 rfl (by decide) rfl ?_
      refine x_lload C rfl (dkAt dk_X1_usedOf 24 rfl) 49 rfl ?_
      refine x_aload_n C rfl rfl (dkAt dk_X1_usedOf 25 rfl) 50 rfl ?_
      refine x_iload C rfl (dkAt dk_X1_usedOf 26 rfl) 52 rfl ?_
      refine x_iald C (hN.sh h_w) (dkAt dk_X1_usedOf 27 rfl) 53 rfl hf (fun v11 hf => ?_)
      refine x_aload_n C rfl rfl (dkAt dk_X1_usedOf 28 rfl) 54 rfl ?_
      refine x_getS C lk_RX1_24 (hN.sh sh16) (hN.sr sr16_0) (dkAt dk_X1_usedOf 29 rfl) 57 rfl ?_
      refine x_iload C rfl (dkAt dk_X1_usedOf 30 rfl) 59 rfl ?_
      refine x_iload_n C rfl rfl (dkAt dk_X1_usedOf 31 rfl) 60 rfl ?_
      obtain ⟨v12, M13, h14, hf⟩ := cl_inv hf
      refine x_cVi C (c_X0_amountOf hN sh3 h14) mw_X0_amountOf ln_RX1_88 mi_X0_amountOf (hN.rc (ci := 0) sh3 rc0) (ro_of (by decide) (by decide) (by decide) (by decide)) rfl rfl (Nat.le_of_ble_eq_true rfl) (dkAt dk_X1_usedOf 32 rfl) 63 rfl 0 0 rfl rfl ?_
      refine x_imul C (dkAt dk_X1_usedOf 33 rfl) 64 rfl ?_
      refine x_i2l C (dkAt dk_X1_usedOf 34 rfl) 65 rfl ?_
      refine x_ladd C (dkAt dk_X1_usedOf 35 rfl) 66 rfl ?_
      refine x_lstore C (L1 := [some (.ref (wad Γ 16)), some (.ref (wad Γ w)), some (.int p1), some (.long x1), none, some (.int x2), some (.long (x5 + (v11 * v12).toInt64)), none, some (.int x6), some (.int v9)]) (dkAt dk_X1_usedOf 36 rfl) 68 rfl (by decide) rfl ?_
      refine x_iinc C (v := (x6 + (1 : Int32))) (L1 := [some (.ref (wad Γ 16)), some (.ref (wad Γ w)), some (.int p1), some (.long x1), none, some (.int x2), some (.long (x5 + (v11 * v12).toInt64)), none, some (.int (x6 + (1 : Int32))), some (.int v9)]) (dkAt dk_X1_usedOf 37 rfl) 71 rfl rfl rfl (by decide) rfl ?_
      refine x_goto C 23 (dkAt dk_X1_usedOf 38 rfl) (by decide) ?_
      exact G.weak (L := [some (.ref (wad Γ 16)), some (.ref (wad Γ w)), some (.int p1), some (.long x1), none, some (.int x2), some (.long (x5 + (v11 * v12).toInt64)), none, some (.int (x6 + (1 : Int32)))]) ⟨rfl, rfl, rfl, rfl, rfl, rfl, rfl, trivial⟩ (ih _ _ _ hf)
set_option maxRecDepth 100000 in
theorem l_X1_usedOf_L5 {Γ : WC} {X : MX} (hN : HN Γ) (C : CX Γ X cX1_usedOf 10 RX1 (some .long) (rmL 2 0 0)) {rM : Int64 × Mem} (E : EndN Γ X (some (.long rM.1)) rM.2 0 0) {Z : Nat} {w : Nat} {p1 : Int32} (h_w : SH[w]? = some (0, 18)) : ∀ (n : Nat) (x1 : Int64) (x2 : Int32) (M3 : Mem), f_X1_usedOf_L5 Z w p1 n x1 x2 M3 = some rM → G Γ X M3 0 0 [some (.ref (wad Γ 16)), some (.ref (wad Γ w)), some (.int p1), some (.long x1), none, some (.int x2)] [] 5 := by
  intro n
  induction n with
  | zero =>
    intro x1 x2 M3 hf
    have hf0 : (none : Option _) = some rM := hf
    cases hf0
  | succ n ih =>
    intro x1 x2 M3 hf
    rw [f_X1_usedOf_L5] at hf
    refine x_iload C rfl (dkAt dk_X1_usedOf 4 rfl) 7 rfl ?_
    refine x_aload_n C rfl rfl (dkAt dk_X1_usedOf 5 rfl) 8 rfl ?_
    refine x_getS C lk_RX1_24 (hN.sh sh16) (hN.sr sr16_0) (dkAt dk_X1_usedOf 6 rfl) 11 rfl ?_
    refine x_getI C lk_RX1_49 (hN.sh sh3) (dkAt dk_X1_usedOf 7 rfl) 14 rfl hf (fun v4 hf => ?_)
    refine x_icmp_ge C 98 (dkAt dk_X1_usedOf 8 rfl) 17 rfl (by decide) hf (fun hf => ?_) (fun hf => ?_)
    · refine x_lload_n C rfl rfl (dkAt dk_X1_usedOf 53 rfl) 99 rfl ?_
      exact x_lret C E hf (by decide) (by decide) (dkAt dk_X1_usedOf 54 rfl)
    · refine x_lconst C (v := (0 : Int64)) (by decide) (dkAt dk_X1_usedOf 9 rfl) 18 rfl ?_
      refine x_lstore C (L1 := [some (.ref (wad Γ 16)), some (.ref (wad Γ w)), some (.int p1), some (.long x1), none, some (.int x2), some (.long (0 : Int64))]) (dkAt dk_X1_usedOf 10 rfl) 20 rfl (by decide) rfl ?_
      refine x_iconst C (v := (0 : Int32)) (by decide) (dkAt dk_X1_usedOf 11 rfl) 21 rfl ?_
      refine x_istore C (L1 := [some (.ref (wad Γ 16)), some (.ref (wad Γ w)), some (.int p1), some (.long x1), none, some (.int x2), some (.long (0 : Int64)), none, some (.int (0 : Int32))]) (dkAt dk_X1_usedOf 12 rfl) 23 rfl (by decide) rfl ?_
      refine G.weak (L := [some (.ref (wad Γ 16)), some (.ref (wad Γ w)), some (.int p1), some (.long x1), none, some (.int x2), some (.long (0 : Int64)), none, some (.int (0 : Int32))]) ⟨rfl, rfl, rfl, rfl, rfl, rfl, rfl, trivial⟩ ?_
      refine l_X1_usedOf_L23 hN C E h_w ?_ Z _ _ _ hf
      intro y16 M17 hf
      refine x_lload_n C rfl rfl (dkAt dk_X1_usedOf 39 rfl) 75 rfl ?_
      refine x_aload_n C rfl rfl (dkAt dk_X1_usedOf 40 rfl) 76 rfl ?_
      refine x_iload C rfl (dkAt dk_X1_usedOf 41 rfl) 78 rfl ?_
      refine x_aload_n C rfl rfl (dkAt dk_X1_usedOf 42 rfl) 79 rfl ?_
      refine x_getI C lk_RX1_32 (hN.sh sh16) (dkAt dk_X1_usedOf 43 rfl) 82 rfl hf (fun v18 hf => ?_)
      refine x_iconst C (v := (1 : Int32)) (by decide) (dkAt dk_X1_usedOf 44 rfl) 83 rfl ?_
      refine x_isub C (dkAt dk_X1_usedOf 45 rfl) 84 rfl ?_
      obtain ⟨v19, M20, h21, hf⟩ := cl_inv hf
      refine x_cVl C (c_X1_sumOf hN h21) mw_X1_sumOf ln_RX1_73 mi_X1_sumOf (hN.rc (ci := 1) sh16 rc1) (ro_of (by decide) (by decide) (by decide) (by decide)) rfl rfl (Nat.le_of_ble_eq_true rfl) (dkAt dk_X1_usedOf 46 rfl) 87 rfl 0 0 rfl rfl ?_
      refine x_lload C rfl (dkAt dk_X1_usedOf 47 rfl) 89 rfl ?_
      refine x_lmul C (dkAt dk_X1_usedOf 48 rfl) 90 rfl ?_
      refine x_ladd C (dkAt dk_X1_usedOf 49 rfl) 91 rfl ?_
      refine x_lstore_n C (L1 := [some (.ref (wad Γ 16)), some (.ref (wad Γ w)), some (.int p1), some (.long (x1 + (v19 * y16))), none, some (.int x2), some (.long y16)]) (dkAt dk_X1_usedOf 50 rfl) 92 rfl rfl (by decide) rfl ?_
      refine x_iinc C (v := (x2 + (1 : Int32))) (L1 := [some (.ref (wad Γ 16)), some (.ref (wad Γ w)), some (.int p1), some (.long (x1 + (v19 * y16))), none, some (.int (x2 + (1 : Int32))), some (.long y16)]) (dkAt dk_X1_usedOf 51 rfl) 95 rfl rfl rfl (by decide) rfl ?_
      refine x_goto C 5 (dkAt dk_X1_usedOf 52 rfl) (by decide) ?_
      exact G.weak (L := [some (.ref (wad Γ 16)), some (.ref (wad Γ w)), some (.int p1), some (.long (x1 + (v19 * y16))), none, some (.int (x2 + (1 : Int32)))]) ⟨rfl, rfl, rfl, rfl, rfl, trivial⟩ (ih _ _ _ hf)
set_option maxRecDepth 100000 in
theorem c_X1_usedOf {Γ : WC} (hN : HN Γ) {Z : Nat} {M : Mem} {w : Nat} {p1 : Int32} {rM : Int64 × Mem} (h_w : SH[w]? = some (0, 18)) (hf : f_X1_usedOf Z M w p1 = some rM) : Ct Γ yX1_usedOf cX1_usedOf 10 (some .long) (rmL 2 0 0) [.ref (wad Γ 16), .ref (wad Γ w), .int p1] M (some (.long rM.1)) rM.2 := by
  refine mkN hN.1 (own := RX1) rfl (by decide) (Nat.le_of_ble_eq_true rfl) (fun X C E => ?_)
  change G Γ X M 0 0 [some (.ref (wad Γ 16)), some (.ref (wad Γ w)), some (.int p1)] [] 0
  unfold f_X1_usedOf at hf
  refine x_lconst C (v := (0 : Int64)) (by decide) (dkAt dk_X1_usedOf 0 rfl) 1 rfl ?_
  refine x_lstore_n C (L1 := [some (.ref (wad Γ 16)), some (.ref (wad Γ w)), some (.int p1), some (.long (0 : Int64))]) (dkAt dk_X1_usedOf 1 rfl) 2 rfl rfl (by decide) rfl ?_
  refine x_iconst C (v := (0 : Int32)) (by decide) (dkAt dk_X1_usedOf 2 rfl) 3 rfl ?_
  refine x_istore C (L1 := [some (.ref (wad Γ 16)), some (.ref (wad Γ w)), some (.int p1), some (.long (0 : Int64)), none, some (.int (0 : Int32))]) (dkAt dk_X1_usedOf 3 rfl) 5 rfl (by decide) rfl ?_
  refine G.weak (L := [some (.ref (wad Γ 16)), some (.ref (wad Γ w)), some (.int p1), some (.long (0 : Int64)), none, some (.int (0 : Int32))]) ⟨rfl, rfl, rfl, rfl, rfl, trivial⟩ ?_
  refine l_X1_usedOf_L5 hN C E h_w Z _ _ _ hf
def f_X1_chanceOver (Z : Nat) (M : Mem) (p0 : Int32) (p1 : Int32) (p2 : Int32) : Option (Int64 × Mem) :=
  cl (f_X1_partsTo Z M p0 p1) (fun v1 M2 => rdL M2 20 36 (((p2 - (1 : Int32)) * (6 : Int32)) + p1) (fun v3 => some ((v1 * v3), M2)))
set_option maxRecDepth 100000 in
theorem c_X1_chanceOver {Γ : WC} (hN : HN Γ) {Z : Nat} {M : Mem} {p0 : Int32} {p1 : Int32} {p2 : Int32} {rM : Int64 × Mem}  (hf : f_X1_chanceOver Z M p0 p1 p2 = some rM) : Ct Γ yX1_chanceOver cX1_chanceOver 4 (some .long) (rmL 1 0 0) [.ref (wad Γ 16), .int p0, .int p1, .int p2] M (some (.long rM.1)) rM.2 := by
  refine mkN hN.1 (own := RX1) rfl (by decide) (Nat.le_of_ble_eq_true rfl) (fun X C E => ?_)
  change G Γ X M 0 0 [some (.ref (wad Γ 16)), some (.int p0), some (.int p1), some (.int p2)] [] 0
  unfold f_X1_chanceOver at hf
  refine x_aload_n C rfl rfl (dkAt dk_X1_chanceOver 0 rfl) 1 rfl ?_
  refine x_iload_n C rfl rfl (dkAt dk_X1_chanceOver 1 rfl) 2 rfl ?_
  refine x_iload_n C rfl rfl (dkAt dk_X1_chanceOver 2 rfl) 3 rfl ?_
  obtain ⟨v1, M2, h4, hf⟩ := cl_inv hf
  refine x_cVl C (c_X1_partsTo hN h4) mw_X1_partsTo ln_RX1_69 mi_X1_partsTo (hN.rc (ci := 1) sh16 rc1) (ro_of (by decide) (by decide) (by decide) (by decide)) rfl rfl (Nat.le_of_ble_eq_true rfl) (dkAt dk_X1_chanceOver 3 rfl) 6 rfl 0 0 rfl rfl ?_
  refine x_aload_n C rfl rfl (dkAt dk_X1_chanceOver 4 rfl) 7 rfl ?_
  refine x_getS C lk_RX1_21 (hN.sh sh16) (hN.sr sr16_6) (dkAt dk_X1_chanceOver 5 rfl) 10 rfl ?_
  refine x_iload_n C rfl rfl (dkAt dk_X1_chanceOver 6 rfl) 11 rfl ?_
  refine x_iconst C (v := (1 : Int32)) (by decide) (dkAt dk_X1_chanceOver 7 rfl) 12 rfl ?_
  refine x_isub C (dkAt dk_X1_chanceOver 8 rfl) 13 rfl ?_
  refine x_bipush C (v := (6 : Int32)) (by decide) (dkAt dk_X1_chanceOver 9 rfl) 15 rfl ?_
  refine x_imul C (dkAt dk_X1_chanceOver 10 rfl) 16 rfl ?_
  refine x_iload_n C rfl rfl (dkAt dk_X1_chanceOver 11 rfl) 17 rfl ?_
  refine x_iadd C (dkAt dk_X1_chanceOver 12 rfl) 18 rfl ?_
  refine x_lald C (hN.sh sh20) (dkAt dk_X1_chanceOver 13 rfl) 19 rfl hf (fun v3 hf => ?_)
  refine x_lmul C (dkAt dk_X1_chanceOver 14 rfl) 20 rfl ?_
  exact x_lret C E hf (by decide) (by decide) (dkAt dk_X1_chanceOver 15 rfl)
def f_X1_fillChances_L36 (Z : Nat) (x3 : Int32) (x6 : Int32) (k : Int64 → Mem → Option (Unit × Mem)) : Nat → Int64 → Int32 → Mem → Option (Unit × Mem)
  | 0, _, _, _ => none
  | n + 1, x9, x10, M11 => bd (gI M11 (3) 0) (fun v12 => (if v12 ≤ x10 then k x9 M11 else cl (f_X1_chanceOver Z M11 x6 x10 x3) (fun v13 M14 => bd (if v13 < x9 then x9 else v13) (fun v15 => f_X1_fillChances_L36 Z x3 x6 k n v15 (x10 + (1 : Int32)) M14))))
def f_X1_fillChances_L20 (Z : Nat) (x3 : Int32) (k : Mem → Option (Unit × Mem)) : Nat → Int32 → Mem → Option (Unit × Mem)
  | 0, _, _ => none
  | n + 1, x6, M7 => bd (gI M7 (3) 0) (fun v8 => (if v8 ≤ x6 then k M7 else f_X1_fillChances_L36 Z x3 x6 (fun (y17 : Int64) (M18 : Mem) => wrL M18 20 36 ((x3 * (6 : Int32)) + x6) y17 (fun M19 => f_X1_fillChances_L20 Z x3 k n (x6 + (1 : Int32)) M19)) Z (0 : Int64) (0 : Int32) M7))
def f_X1_fillChances_L10 (Z : Nat) : Nat → Int32 → Mem → Option (Unit × Mem)
  | 0, _, _ => none
  | n + 1, x3, M4 => bd (gI M4 (16) 2) (fun v5 => (if v5 < x3 then some ((), M4) else f_X1_fillChances_L20 Z x3 (fun (M20 : Mem) => f_X1_fillChances_L10 Z n (x3 + (1 : Int32)) M20) Z (0 : Int32) M4))
def f_X1_fillChances (Z : Nat) (M : Mem)  : Option (Unit × Mem) :=
  cl (f_J7_fill_d0a16 Z M (20) 36 (1 : Int64)) (fun v1 M2 => f_X1_fillChances_L10 Z Z (1 : Int32) M2)
set_option maxRecDepth 100000 in
theorem l_X1_fillChances_L36 {Γ : WC} {X : MX} (hN : HN Γ) (C : CX Γ X cX1_fillChances 6 RX1 none (rmL 2 0 0)) {rM : Unit × Mem} (E : EndN Γ X none rM.2 0 0) {Z : Nat} {x3 : Int32} {x6 : Int32} {k : Int64 → Mem → Option (Unit × Mem)} (hk : ∀ (a3 : Int64) (Mx : Mem), k a3 Mx = some rM → G Γ X Mx 0 0 [some (.ref (wad Γ 16)), some (.int x3), some (.int x6), some (.long a3)] [] 67) : ∀ (n : Nat) (x9 : Int64) (x10 : Int32) (M11 : Mem), f_X1_fillChances_L36 Z x3 x6 k n x9 x10 M11 = some rM → G Γ X M11 0 0 [some (.ref (wad Γ 16)), some (.int x3), some (.int x6), some (.long x9), none, some (.int x10)] [] 36 := by
  intro n
  induction n with
  | zero =>
    intro x9 x10 M11 hf
    have hf0 : (none : Option _) = some rM := hf
    cases hf0
  | succ n ih =>
    intro x9 x10 M11 hf
    rw [f_X1_fillChances_L36] at hf
    refine x_iload C rfl (dkAt dk_X1_fillChances 21 rfl) 38 rfl ?_
    refine x_aload_n C rfl rfl (dkAt dk_X1_fillChances 22 rfl) 39 rfl ?_
    refine x_getS C lk_RX1_24 (hN.sh sh16) (hN.sr sr16_0) (dkAt dk_X1_fillChances 23 rfl) 42 rfl ?_
    refine x_getI C lk_RX1_49 (hN.sh sh3) (dkAt dk_X1_fillChances 24 rfl) 45 rfl hf (fun v12 hf => ?_)
    refine x_icmp_ge C 67 (dkAt dk_X1_fillChances 25 rfl) 48 rfl (by decide) hf (fun hf => ?_) (fun hf => ?_)
    · exact G.weak (L := [some (.ref (wad Γ 16)), some (.int x3), some (.int x6), some (.long x9)]) ⟨rfl, rfl, rfl, rfl, trivial⟩ (hk _ _ hf)
    · refine x_lload_n C rfl rfl (dkAt dk_X1_fillChances 26 rfl) 49 rfl ?_
      refine x_aload_n C rfl rfl (dkAt dk_X1_fillChances 27 rfl) 50 rfl ?_
      refine x_iload_n C rfl rfl (dkAt dk_X1_fillChances 28 rfl) 51 rfl ?_
      refine x_iload C rfl (dkAt dk_X1_fillChances 29 rfl) 53 rfl ?_
      refine x_iload_n C rfl rfl (dkAt dk_X1_fillChances 30 rfl) 54 rfl ?_
      obtain ⟨v13, M14, h16, hf⟩ := cl_inv hf
      refine x_cVl C (c_X1_chanceOver hN h16) mw_X1_chanceOver ln_RX1_97 mi_X1_chanceOver (hN.rc (ci := 1) sh16 rc1) (ro_of (by decide) (by decide) (by decide) (by decide)) rfl rfl (Nat.le_of_ble_eq_true rfl) (dkAt dk_X1_fillChances 31 rfl) 57 rfl 0 0 rfl rfl ?_
      refine x_maxL C ln_RX1_101 ⟨by decide, by decide, by decide, by decide⟩ (Nat.le_of_ble_eq_true rfl) (dkAt dk_X1_fillChances 32 rfl) 60 rfl hf (fun v15 hf => ?_)
      refine x_lstore_n C (L1 := [some (.ref (wad Γ 16)), some (.int x3), some (.int x6), some (.long v15), none, some (.int x10)]) (dkAt dk_X1_fillChances 33 rfl) 61 rfl rfl (by decide) rfl ?_
      refine x_iinc C (v := (x10 + (1 : Int32))) (L1 := [some (.ref (wad Γ 16)), some (.int x3), some (.int x6), some (.long v15), none, some (.int (x10 + (1 : Int32)))]) (dkAt dk_X1_fillChances 34 rfl) 64 rfl rfl rfl (by decide) rfl ?_
      refine x_goto C 36 (dkAt dk_X1_fillChances 35 rfl) (by decide) ?_
      exact G.weak (L := [some (.ref (wad Γ 16)), some (.int x3), some (.int x6), some (.long v15), none, some (.int (x10 + (1 : Int32)))]) ⟨rfl, rfl, rfl, rfl, rfl, trivial⟩ (ih _ _ _ hf)
set_option maxRecDepth 100000 in
theorem l_X1_fillChances_L20 {Γ : WC} {X : MX} (hN : HN Γ) (C : CX Γ X cX1_fillChances 6 RX1 none (rmL 2 0 0)) {rM : Unit × Mem} (E : EndN Γ X none rM.2 0 0) {Z : Nat} {x3 : Int32} {k : Mem → Option (Unit × Mem)} (hk : ∀  (Mx : Mem), k Mx = some rM → G Γ X Mx 0 0 [some (.ref (wad Γ 16)), some (.int x3)] [] 85) : ∀ (n : Nat) (x6 : Int32) (M7 : Mem), f_X1_fillChances_L20 Z x3 k n x6 M7 = some rM → G Γ X M7 0 0 [some (.ref (wad Γ 16)), some (.int x3), some (.int x6)] [] 20 := by
  intro n
  induction n with
  | zero =>
    intro x6 M7 hf
    have hf0 : (none : Option _) = some rM := hf
    cases hf0
  | succ n ih =>
    intro x6 M7 hf
    rw [f_X1_fillChances_L20] at hf
    refine x_iload_n C rfl rfl (dkAt dk_X1_fillChances 12 rfl) 21 rfl ?_
    refine x_aload_n C rfl rfl (dkAt dk_X1_fillChances 13 rfl) 22 rfl ?_
    refine x_getS C lk_RX1_24 (hN.sh sh16) (hN.sr sr16_0) (dkAt dk_X1_fillChances 14 rfl) 25 rfl ?_
    refine x_getI C lk_RX1_49 (hN.sh sh3) (dkAt dk_X1_fillChances 15 rfl) 28 rfl hf (fun v8 hf => ?_)
    refine x_icmp_ge C 85 (dkAt dk_X1_fillChances 16 rfl) 31 rfl (by decide) hf (fun hf => ?_) (fun hf => ?_)
    · exact G.weak (L := [some (.ref (wad Γ 16)), some (.int x3)]) ⟨rfl, rfl, trivial⟩ (hk _ hf)
    · refine x_lconst C (v := (0 : Int64)) (by decide) (dkAt dk_X1_fillChances 17 rfl) 32 rfl ?_
      refine x_lstore_n C (L1 := [some (.ref (wad Γ 16)), some (.int x3), some (.int x6), some (.long (0 : Int64))]) (dkAt dk_X1_fillChances 18 rfl) 33 rfl rfl (by decide) rfl ?_
      refine x_iconst C (v := (0 : Int32)) (by decide) (dkAt dk_X1_fillChances 19 rfl) 34 rfl ?_
      refine x_istore C (L1 := [some (.ref (wad Γ 16)), some (.int x3), some (.int x6), some (.long (0 : Int64)), none, some (.int (0 : Int32))]) (dkAt dk_X1_fillChances 20 rfl) 36 rfl (by decide) rfl ?_
      refine G.weak (L := [some (.ref (wad Γ 16)), some (.int x3), some (.int x6), some (.long (0 : Int64)), none, some (.int (0 : Int32))]) ⟨rfl, rfl, rfl, rfl, rfl, trivial⟩ ?_
      refine l_X1_fillChances_L36 hN C E ?_ Z _ _ _ hf
      intro y17 M18 hf
      refine x_aload_n C rfl rfl (dkAt dk_X1_fillChances 36 rfl) 68 rfl ?_
      refine x_getS C lk_RX1_21 (hN.sh sh16) (hN.sr sr16_6) (dkAt dk_X1_fillChances 37 rfl) 71 rfl ?_
      refine x_iload_n C rfl rfl (dkAt dk_X1_fillChances 38 rfl) 72 rfl ?_
      refine x_bipush C (v := (6 : Int32)) (by decide) (dkAt dk_X1_fillChances 39 rfl) 74 rfl ?_
      refine x_imul C (dkAt dk_X1_fillChances 40 rfl) 75 rfl ?_
      refine x_iload_n C rfl rfl (dkAt dk_X1_fillChances 41 rfl) 76 rfl ?_
      refine x_iadd C (dkAt dk_X1_fillChances 42 rfl) 77 rfl ?_
      refine x_lload_n C rfl rfl (dkAt dk_X1_fillChances 43 rfl) 78 rfl ?_
      refine x_last C (hN.sh sh20) (dkAt dk_X1_fillChances 44 rfl) 79 rfl hf (fun M19 hf => ?_)
      refine x_iinc C (v := (x6 + (1 : Int32))) (L1 := [some (.ref (wad Γ 16)), some (.int x3), some (.int (x6 + (1 : Int32))), some (.long y17)]) (dkAt dk_X1_fillChances 45 rfl) 82 rfl rfl rfl (by decide) rfl ?_
      refine x_goto C 20 (dkAt dk_X1_fillChances 46 rfl) (by decide) ?_
      exact G.weak (L := [some (.ref (wad Γ 16)), some (.int x3), some (.int (x6 + (1 : Int32)))]) ⟨rfl, rfl, rfl, trivial⟩ (ih _ _ hf)
set_option maxRecDepth 100000 in
theorem l_X1_fillChances_L10 {Γ : WC} {X : MX} (hN : HN Γ) (C : CX Γ X cX1_fillChances 6 RX1 none (rmL 2 0 0)) {rM : Unit × Mem} (E : EndN Γ X none rM.2 0 0) {Z : Nat} : ∀ (n : Nat) (x3 : Int32) (M4 : Mem), f_X1_fillChances_L10 Z n x3 M4 = some rM → G Γ X M4 0 0 [some (.ref (wad Γ 16)), some (.int x3)] [] 10 := by
  intro n
  induction n with
  | zero =>
    intro x3 M4 hf
    have hf0 : (none : Option _) = some rM := hf
    cases hf0
  | succ n ih =>
    intro x3 M4 hf
    rw [f_X1_fillChances_L10] at hf
    refine x_iload_n C rfl rfl (dkAt dk_X1_fillChances 6 rfl) 11 rfl ?_
    refine x_aload_n C rfl rfl (dkAt dk_X1_fillChances 7 rfl) 12 rfl ?_
    refine x_getI C lk_RX1_32 (hN.sh sh16) (dkAt dk_X1_fillChances 8 rfl) 15 rfl hf (fun v5 hf => ?_)
    refine x_icmp_gt C 91 (dkAt dk_X1_fillChances 9 rfl) 18 rfl (by decide) hf (fun hf => ?_) (fun hf => ?_)
    · exact x_vret C E hf (by decide) (by decide) (dkAt dk_X1_fillChances 49 rfl)
    · refine x_iconst C (v := (0 : Int32)) (by decide) (dkAt dk_X1_fillChances 10 rfl) 19 rfl ?_
      refine x_istore_n C (L1 := [some (.ref (wad Γ 16)), some (.int x3), some (.int (0 : Int32))]) (dkAt dk_X1_fillChances 11 rfl) 20 rfl rfl (by decide) rfl ?_
      refine G.weak (L := [some (.ref (wad Γ 16)), some (.int x3), some (.int (0 : Int32))]) ⟨rfl, rfl, rfl, trivial⟩ ?_
      refine l_X1_fillChances_L20 hN C E ?_ Z _ _ hf
      intro M20 hf
      refine x_iinc C (v := (x3 + (1 : Int32))) (L1 := [some (.ref (wad Γ 16)), some (.int (x3 + (1 : Int32)))]) (dkAt dk_X1_fillChances 47 rfl) 88 rfl rfl rfl (by decide) rfl ?_
      refine x_goto C 10 (dkAt dk_X1_fillChances 48 rfl) (by decide) ?_
      exact G.weak (L := [some (.ref (wad Γ 16)), some (.int (x3 + (1 : Int32)))]) ⟨rfl, rfl, trivial⟩ (ih _ _ hf)
set_option maxRecDepth 100000 in
theorem c_X1_fillChances {Γ : WC} (hN : HN Γ) {Z : Nat} {M : Mem}  {rM : Unit × Mem}  (hf : f_X1_fillChances Z M  = some rM) : Ct Γ yX1_fillChances cX1_fillChances 6 none (rmL 2 0 0) [.ref (wad Γ 16)] M none rM.2 := by
  refine mkN hN.1 (own := RX1) rfl (by decide) (Nat.le_of_ble_eq_true rfl) (fun X C E => ?_)
  change G Γ X M 0 0 [some (.ref (wad Γ 16))] [] 0
  unfold f_X1_fillChances at hf
  refine x_aload_n C rfl rfl (dkAt dk_X1_fillChances 0 rfl) 1 rfl ?_
  refine x_getS C lk_RX1_21 (hN.sh sh16) (hN.sr sr16_6) (dkAt dk_X1_fillChances 1 rfl) 4 rfl ?_
  refine x_lconst C (v := (1 : Int64)) (by decide) (dkAt dk_X1_fillChances 2 rfl) 5 rfl ?_
  obtain ⟨v1, M2, h21, hf⟩ := cl_inv hf
  refine x_cSv C (c_J7_fill_d0a16 hN sh20 h21) mw_J7_fill_d0a16 ln_RX1_39 ms_J7_fill_d0a16 (ro_of (by decide) (by decide) (by decide) (by decide)) rfl rfl (Nat.le_of_ble_eq_true rfl) (dkAt dk_X1_fillChances 3 rfl) 8 rfl 0 0 rfl rfl ?_
  refine x_iconst C (v := (1 : Int32)) (by decide) (dkAt dk_X1_fillChances 4 rfl) 9 rfl ?_
  refine x_istore_n C (L1 := [some (.ref (wad Γ 16)), some (.int (1 : Int32))]) (dkAt dk_X1_fillChances 5 rfl) 10 rfl rfl (by decide) rfl ?_
  refine G.weak (L := [some (.ref (wad Γ 16)), some (.int (1 : Int32))]) ⟨rfl, rfl, trivial⟩ ?_
  refine l_X1_fillChances_L10 hN C E Z _ _ hf
def f_X1_likeliestNext_L2 (Z : Nat) (p0 : Int32) (p1 : Int32) : Nat → Int32 → Mem → Option (Int32 × Mem)
  | 0, _, _ => none
  | n + 1, x1, M2 => bd (gI M2 (3) 0) (fun v3 => (if v3 ≤ x1 then some (p0, M2) else cl (f_X1_chanceOver Z M2 p0 x1 p1) (fun v4 M5 => rdL M5 20 36 ((p1 * (6 : Int32)) + p0) (fun v6 => (if v4 = v6 then some (x1, M5) else f_X1_likeliestNext_L2 Z p0 p1 n (x1 + (1 : Int32)) M5)))))
def f_X1_likeliestNext (Z : Nat) (M : Mem) (p0 : Int32) (p1 : Int32) : Option (Int32 × Mem) :=
  f_X1_likeliestNext_L2 Z p0 p1 Z (0 : Int32) M
set_option maxRecDepth 100000 in
theorem l_X1_likeliestNext_L2 {Γ : WC} {X : MX} (hN : HN Γ) (C : CX Γ X cX1_likeliestNext 4 RX1 (some .int) (rmL 2 0 0)) {rM : Int32 × Mem} (E : EndN Γ X (some (.int rM.1)) rM.2 0 0) {Z : Nat} {p0 : Int32} {p1 : Int32} : ∀ (n : Nat) (x1 : Int32) (M2 : Mem), f_X1_likeliestNext_L2 Z p0 p1 n x1 M2 = some rM → G Γ X M2 0 0 [some (.ref (wad Γ 16)), some (.int p0), some (.int p1), some (.int x1)] [] 2 := by
  intro n
  induction n with
  | zero =>
    intro x1 M2 hf
    have hf0 : (none : Option _) = some rM := hf
    cases hf0
  | succ n ih =>
    intro x1 M2 hf
    rw [f_X1_likeliestNext_L2] at hf
    refine x_iload_n C rfl rfl (dkAt dk_X1_likeliestNext 2 rfl) 3 rfl ?_
    refine x_aload_n C rfl rfl (dkAt dk_X1_likeliestNext 3 rfl) 4 rfl ?_
    refine x_getS C lk_RX1_24 (hN.sh sh16) (hN.sr sr16_0) (dkAt dk_X1_likeliestNext 4 rfl) 7 rfl ?_
    refine x_getI C lk_RX1_49 (hN.sh sh3) (dkAt dk_X1_likeliestNext 5 rfl) 10 rfl hf (fun v3 hf => ?_)
    refine x_icmp_ge C 43 (dkAt dk_X1_likeliestNext 6 rfl) 13 rfl (by decide) hf (fun hf => ?_) (fun hf => ?_)
    · refine x_iload_n C rfl rfl (dkAt dk_X1_likeliestNext 26 rfl) 44 rfl ?_
      exact x_iret C E hf (by decide) (by decide) (dkAt dk_X1_likeliestNext 27 rfl)
    · refine x_aload_n C rfl rfl (dkAt dk_X1_likeliestNext 7 rfl) 14 rfl ?_
      refine x_iload_n C rfl rfl (dkAt dk_X1_likeliestNext 8 rfl) 15 rfl ?_
      refine x_iload_n C rfl rfl (dkAt dk_X1_likeliestNext 9 rfl) 16 rfl ?_
      refine x_iload_n C rfl rfl (dkAt dk_X1_likeliestNext 10 rfl) 17 rfl ?_
      obtain ⟨v4, M5, h7, hf⟩ := cl_inv hf
      refine x_cVl C (c_X1_chanceOver hN h7) mw_X1_chanceOver ln_RX1_97 mi_X1_chanceOver (hN.rc (ci := 1) sh16 rc1) (ro_of (by decide) (by decide) (by decide) (by decide)) rfl rfl (Nat.le_of_ble_eq_true rfl) (dkAt dk_X1_likeliestNext 11 rfl) 20 rfl 0 0 rfl rfl ?_
      refine x_aload_n C rfl rfl (dkAt dk_X1_likeliestNext 12 rfl) 21 rfl ?_
      refine x_getS C lk_RX1_21 (hN.sh sh16) (hN.sr sr16_6) (dkAt dk_X1_likeliestNext 13 rfl) 24 rfl ?_
      refine x_iload_n C rfl rfl (dkAt dk_X1_likeliestNext 14 rfl) 25 rfl ?_
      refine x_bipush C (v := (6 : Int32)) (by decide) (dkAt dk_X1_likeliestNext 15 rfl) 27 rfl ?_
      refine x_imul C (dkAt dk_X1_likeliestNext 16 rfl) 28 rfl ?_
      refine x_iload_n C rfl rfl (dkAt dk_X1_likeliestNext 17 rfl) 29 rfl ?_
      refine x_iadd C (dkAt dk_X1_likeliestNext 18 rfl) 30 rfl ?_
      refine x_lald C (hN.sh sh20) (dkAt dk_X1_likeliestNext 19 rfl) 31 rfl hf (fun v6 hf => ?_)
      refine x_lcmp_ne C 37 (dkAt dk_X1_likeliestNext 20 rfl) 35 rfl (dkAt dk_X1_likeliestNext 21 rfl) (by decide) hf (fun hf => ?_) (fun hf => ?_)
      · refine x_iinc C (v := (x1 + (1 : Int32))) (L1 := [some (.ref (wad Γ 16)), some (.int p0), some (.int p1), some (.int (x1 + (1 : Int32)))]) (dkAt dk_X1_likeliestNext 24 rfl) 40 rfl rfl rfl (by decide) rfl ?_
        refine x_goto C 2 (dkAt dk_X1_likeliestNext 25 rfl) (by decide) ?_
        exact G.weak (L := [some (.ref (wad Γ 16)), some (.int p0), some (.int p1), some (.int (x1 + (1 : Int32)))]) ⟨rfl, rfl, rfl, rfl, trivial⟩ (ih _ _ hf)
      · refine x_iload_n C rfl rfl (dkAt dk_X1_likeliestNext 22 rfl) 36 rfl ?_
        exact x_iret C E hf (by decide) (by decide) (dkAt dk_X1_likeliestNext 23 rfl)
set_option maxRecDepth 100000 in
theorem c_X1_likeliestNext {Γ : WC} (hN : HN Γ) {Z : Nat} {M : Mem} {p0 : Int32} {p1 : Int32} {rM : Int32 × Mem}  (hf : f_X1_likeliestNext Z M p0 p1 = some rM) : Ct Γ yX1_likeliestNext cX1_likeliestNext 4 (some .int) (rmL 2 0 0) [.ref (wad Γ 16), .int p0, .int p1] M (some (.int rM.1)) rM.2 := by
  refine mkN hN.1 (own := RX1) rfl (by decide) (Nat.le_of_ble_eq_true rfl) (fun X C E => ?_)
  change G Γ X M 0 0 [some (.ref (wad Γ 16)), some (.int p0), some (.int p1)] [] 0
  unfold f_X1_likeliestNext at hf
  refine x_iconst C (v := (0 : Int32)) (by decide) (dkAt dk_X1_likeliestNext 0 rfl) 1 rfl ?_
  refine x_istore_n C (L1 := [some (.ref (wad Γ 16)), some (.int p0), some (.int p1), some (.int (0 : Int32))]) (dkAt dk_X1_likeliestNext 1 rfl) 2 rfl rfl (by decide) rfl ?_
  refine G.weak (L := [some (.ref (wad Γ 16)), some (.int p0), some (.int p1), some (.int (0 : Int32))]) ⟨rfl, rfl, rfl, rfl, trivial⟩ ?_
  refine l_X1_likeliestNext_L2 hN C E Z _ _ hf
def f_X1_stateOfLikeliest_L11 (Z : Nat) (p0 : Int32) : Nat → Int32 → Int32 → Mem → Option (Int32 × Mem)
  | 0, _, _, _ => none
  | n + 1, x4, x5, M6 => (if p0 ≤ x5 then some (x4, M6) else bd (gI M6 (16) 2) (fun v7 => cl (f_X1_likeliestNext Z M6 x4 (v7 - x5)) (fun v8 M9 => f_X1_stateOfLikeliest_L11 Z p0 n v8 (x5 + (1 : Int32)) M9)))
def f_X1_stateOfLikeliest (Z : Nat) (M : Mem) (p0 : Int32) : Option (Int32 × Mem) :=
  cl (f_X1_fillChances Z M) (fun v1 M2 => bd (gI M2 (16) 1) (fun v3 => f_X1_stateOfLikeliest_L11 Z p0 Z v3 (0 : Int32) M2))
set_option maxRecDepth 100000 in
theorem l_X1_stateOfLikeliest_L11 {Γ : WC} {X : MX} (hN : HN Γ) (C : CX Γ X cX1_stateOfLikeliest 4 RX1 (some .int) (rmL 3 0 0)) {rM : Int32 × Mem} (E : EndN Γ X (some (.int rM.1)) rM.2 0 0) {Z : Nat} {p0 : Int32} : ∀ (n : Nat) (x4 : Int32) (x5 : Int32) (M6 : Mem), f_X1_stateOfLikeliest_L11 Z p0 n x4 x5 M6 = some rM → G Γ X M6 0 0 [some (.ref (wad Γ 16)), some (.int p0), some (.int x4), some (.int x5)] [] 11 := by
  intro n
  induction n with
  | zero =>
    intro x4 x5 M6 hf
    have hf0 : (none : Option _) = some rM := hf
    cases hf0
  | succ n ih =>
    intro x4 x5 M6 hf
    rw [f_X1_stateOfLikeliest_L11] at hf
    refine x_iload_n C rfl rfl (dkAt dk_X1_stateOfLikeliest 7 rfl) 12 rfl ?_
    refine x_iload_n C rfl rfl (dkAt dk_X1_stateOfLikeliest 8 rfl) 13 rfl ?_
    refine x_icmp_ge C 34 (dkAt dk_X1_stateOfLikeliest 9 rfl) 16 rfl (by decide) hf (fun hf => ?_) (fun hf => ?_)
    · refine x_iload_n C rfl rfl (dkAt dk_X1_stateOfLikeliest 20 rfl) 35 rfl ?_
      exact x_iret C E hf (by decide) (by decide) (dkAt dk_X1_stateOfLikeliest 21 rfl)
    · refine x_aload_n C rfl rfl (dkAt dk_X1_stateOfLikeliest 10 rfl) 17 rfl ?_
      refine x_iload_n C rfl rfl (dkAt dk_X1_stateOfLikeliest 11 rfl) 18 rfl ?_
      refine x_aload_n C rfl rfl (dkAt dk_X1_stateOfLikeliest 12 rfl) 19 rfl ?_
      refine x_getI C lk_RX1_32 (hN.sh sh16) (dkAt dk_X1_stateOfLikeliest 13 rfl) 22 rfl hf (fun v7 hf => ?_)
      refine x_iload_n C rfl rfl (dkAt dk_X1_stateOfLikeliest 14 rfl) 23 rfl ?_
      refine x_isub C (dkAt dk_X1_stateOfLikeliest 15 rfl) 24 rfl ?_
      obtain ⟨v8, M9, h10, hf⟩ := cl_inv hf
      refine x_cVi C (c_X1_likeliestNext hN h10) mw_X1_likeliestNext ln_RX1_94 mi_X1_likeliestNext (hN.rc (ci := 1) sh16 rc1) (ro_of (by decide) (by decide) (by decide) (by decide)) rfl rfl (Nat.le_of_ble_eq_true rfl) (dkAt dk_X1_stateOfLikeliest 16 rfl) 27 rfl 0 0 rfl rfl ?_
      refine x_istore_n C (L1 := [some (.ref (wad Γ 16)), some (.int p0), some (.int v8), some (.int x5)]) (dkAt dk_X1_stateOfLikeliest 17 rfl) 28 rfl rfl (by decide) rfl ?_
      refine x_iinc C (v := (x5 + (1 : Int32))) (L1 := [some (.ref (wad Γ 16)), some (.int p0), some (.int v8), some (.int (x5 + (1 : Int32)))]) (dkAt dk_X1_stateOfLikeliest 18 rfl) 31 rfl rfl rfl (by decide) rfl ?_
      refine x_goto C 11 (dkAt dk_X1_stateOfLikeliest 19 rfl) (by decide) ?_
      exact G.weak (L := [some (.ref (wad Γ 16)), some (.int p0), some (.int v8), some (.int (x5 + (1 : Int32)))]) ⟨rfl, rfl, rfl, rfl, trivial⟩ (ih _ _ _ hf)
set_option maxRecDepth 100000 in
theorem c_X1_stateOfLikeliest {Γ : WC} (hN : HN Γ) {Z : Nat} {M : Mem} {p0 : Int32} {rM : Int32 × Mem}  (hf : f_X1_stateOfLikeliest Z M p0 = some rM) : Ct Γ yX1_stateOfLikeliest cX1_stateOfLikeliest 4 (some .int) (rmL 3 0 0) [.ref (wad Γ 16), .int p0] M (some (.int rM.1)) rM.2 := by
  refine mkN hN.1 (own := RX1) rfl (by decide) (Nat.le_of_ble_eq_true rfl) (fun X C E => ?_)
  change G Γ X M 0 0 [some (.ref (wad Γ 16)), some (.int p0)] [] 0
  unfold f_X1_stateOfLikeliest at hf
  refine x_aload_n C rfl rfl (dkAt dk_X1_stateOfLikeliest 0 rfl) 1 rfl ?_
  obtain ⟨v1, M2, h11, hf⟩ := cl_inv hf
  refine x_cVv C (c_X1_fillChances hN h11) mw_X1_fillChances ln_RX1_91 mi_X1_fillChances (hN.rc (ci := 1) sh16 rc1) (ro_of (by decide) (by decide) (by decide) (by decide)) rfl rfl (Nat.le_of_ble_eq_true rfl) (dkAt dk_X1_stateOfLikeliest 1 rfl) 4 rfl 0 0 rfl rfl ?_
  refine x_aload_n C rfl rfl (dkAt dk_X1_stateOfLikeliest 2 rfl) 5 rfl ?_
  refine x_getI C lk_RX1_28 (hN.sh sh16) (dkAt dk_X1_stateOfLikeliest 3 rfl) 8 rfl hf (fun v3 hf => ?_)
  refine x_istore_n C (L1 := [some (.ref (wad Γ 16)), some (.int p0), some (.int v3)]) (dkAt dk_X1_stateOfLikeliest 4 rfl) 9 rfl rfl (by decide) rfl ?_
  refine x_iconst C (v := (0 : Int32)) (by decide) (dkAt dk_X1_stateOfLikeliest 5 rfl) 10 rfl ?_
  refine x_istore_n C (L1 := [some (.ref (wad Γ 16)), some (.int p0), some (.int v3), some (.int (0 : Int32))]) (dkAt dk_X1_stateOfLikeliest 6 rfl) 11 rfl rfl (by decide) rfl ?_
  refine G.weak (L := [some (.ref (wad Γ 16)), some (.int p0), some (.int v3), some (.int (0 : Int32))]) ⟨rfl, rfl, rfl, rfl, trivial⟩ ?_
  refine l_X1_stateOfLikeliest_L11 hN C E Z _ _ _ hf
def f_X2_hasRoom (Z : Nat) (M : Mem) (p0 : Int32) : Option (Int32 × Mem) :=
  bd (gI M (1) 1) (fun v1 => (if (1200 : Int32) < (v1 + p0) then some ((0 : Int32), M) else some ((1 : Int32), M)))
set_option maxRecDepth 100000 in
theorem c_X2_hasRoom {Γ : WC} (hN : HN Γ) {Z : Nat} {M : Mem} {p0 : Int32} {rM : Int32 × Mem}  (hf : f_X2_hasRoom Z M p0 = some rM) : Ct Γ yX2_hasRoom cX2_hasRoom 2 (some .boolean) (rmL 0 0 0) [.ref (wad Γ 1), .int p0] M (some (.int rM.1)) rM.2 := by
  refine mkN hN.1 (own := RX2) rfl (by decide) (Nat.le_of_ble_eq_true rfl) (fun X C E => ?_)
  change G Γ X M 0 0 [some (.ref (wad Γ 1)), some (.int p0)] [] 0
  unfold f_X2_hasRoom at hf
  refine x_aload_n C rfl rfl (dkAt dk_X2_hasRoom 0 rfl) 1 rfl ?_
  refine x_getI C lk_RX2_15 (hN.sh sh1) (dkAt dk_X2_hasRoom 1 rfl) 4 rfl hf (fun v1 hf => ?_)
  refine x_iload_n C rfl rfl (dkAt dk_X2_hasRoom 2 rfl) 5 rfl ?_
  refine x_iadd C (dkAt dk_X2_hasRoom 3 rfl) 6 rfl ?_
  refine x_sipush C (v := (1200 : Int32)) (by decide) (dkAt dk_X2_hasRoom 4 rfl) 9 rfl ?_
  refine x_icmp_gt C 16 (dkAt dk_X2_hasRoom 5 rfl) 12 rfl (by decide) hf (fun hf => ?_) (fun hf => ?_)
  · refine x_iconst C (v := (0 : Int32)) (by decide) (dkAt dk_X2_hasRoom 8 rfl) 17 rfl ?_
    exact x_zret C E (by decide) hf (by decide) (by decide) (dkAt dk_X2_hasRoom 9 rfl)
  · refine x_iconst C (v := (1 : Int32)) (by decide) (dkAt dk_X2_hasRoom 6 rfl) 13 rfl ?_
    refine x_goto C 17 (dkAt dk_X2_hasRoom 7 rfl) (by decide) ?_
    exact x_zret C E (by decide) hf (by decide) (by decide) (dkAt dk_X2_hasRoom 9 rfl)
def f_X2_put_L3 (Z : Nat) (p0 : Int32) : Nat → Int32 → Mem → Option (Unit × Mem)
  | 0, _, _ => none
  | n + 1, x1, M2 => (if x1 < 0 then some ((), M2) else bd (gI M2 (1) 1) (fun v3 => (if (1200 : Int32) ≤ v3 then some ((), M2) else bd (gI M2 (1) 1) (fun v4 => wrB M2 2 1200 v4 ((p0 >>> (x1 &&& 31)).toInt8.toInt32) (fun M5 => bd (gI M5 (1) 1) (fun v6 => bd (sI M5 (1) 1 (v6 + (1 : Int32))) (fun M7 => f_X2_put_L3 Z p0 n (x1 + (-8 : Int32)) M7)))))))
def f_X2_put (Z : Nat) (M : Mem) (p0 : Int32) : Option (Unit × Mem) :=
  f_X2_put_L3 Z p0 Z (24 : Int32) M
set_option maxRecDepth 100000 in
theorem l_X2_put_L3 {Γ : WC} {X : MX} (hN : HN Γ) (C : CX Γ X cX2_put 3 RX2 none (rmL 0 0 0)) {rM : Unit × Mem} (E : EndN Γ X none rM.2 0 0) {Z : Nat} {p0 : Int32} : ∀ (n : Nat) (x1 : Int32) (M2 : Mem), f_X2_put_L3 Z p0 n x1 M2 = some rM → G Γ X M2 0 0 [some (.ref (wad Γ 1)), some (.int p0), some (.int x1)] [] 3 := by
  intro n
  induction n with
  | zero =>
    intro x1 M2 hf
    have hf0 : (none : Option _) = some rM := hf
    cases hf0
  | succ n ih =>
    intro x1 M2 hf
    rw [f_X2_put_L3] at hf
    refine x_iload_n C rfl rfl (dkAt dk_X2_put 2 rfl) 4 rfl ?_
    refine x_if_lt C 46 (dkAt dk_X2_put 3 rfl) 7 rfl (by decide) hf (fun hf => ?_) (fun hf => ?_)
    · exact x_vret C E hf (by decide) (by decide) (dkAt dk_X2_put 25 rfl)
    · refine x_aload_n C rfl rfl (dkAt dk_X2_put 4 rfl) 8 rfl ?_
      refine x_getI C lk_RX2_15 (hN.sh sh1) (dkAt dk_X2_put 5 rfl) 11 rfl hf (fun v3 hf => ?_)
      refine x_sipush C (v := (1200 : Int32)) (by decide) (dkAt dk_X2_put 6 rfl) 14 rfl ?_
      refine x_icmp_ge C 46 (dkAt dk_X2_put 7 rfl) 17 rfl (by decide) hf (fun hf => ?_) (fun hf => ?_)
      · exact x_vret C E hf (by decide) (by decide) (dkAt dk_X2_put 25 rfl)
      · refine x_aload_n C rfl rfl (dkAt dk_X2_put 8 rfl) 18 rfl ?_
        refine x_getS C lk_RX2_9 (hN.sh sh1) (hN.sr sr1_0) (dkAt dk_X2_put 9 rfl) 21 rfl ?_
        refine x_aload_n C rfl rfl (dkAt dk_X2_put 10 rfl) 22 rfl ?_
        refine x_getI C lk_RX2_15 (hN.sh sh1) (dkAt dk_X2_put 11 rfl) 25 rfl hf (fun v4 hf => ?_)
        refine x_iload_n C rfl rfl (dkAt dk_X2_put 12 rfl) 26 rfl ?_
        refine x_iload_n C rfl rfl (dkAt dk_X2_put 13 rfl) 27 rfl ?_
        refine x_ishr C (dkAt dk_X2_put 14 rfl) 28 rfl ?_
        refine x_i2b C (dkAt dk_X2_put 15 rfl) 29 rfl ?_
        refine x_bast C (hN.sh sh2) (dkAt dk_X2_put 16 rfl) 30 rfl hf (fun M5 hf => ?_)
        refine x_aload_n C rfl rfl (dkAt dk_X2_put 17 rfl) 31 rfl ?_
        refine x_dup C rfl (dkAt dk_X2_put 18 rfl) 32 rfl ?_
        refine x_getI C lk_RX2_15 (hN.sh sh1) (dkAt dk_X2_put 19 rfl) 35 rfl hf (fun v6 hf => ?_)
        refine x_iconst C (v := (1 : Int32)) (by decide) (dkAt dk_X2_put 20 rfl) 36 rfl ?_
        refine x_iadd C (dkAt dk_X2_put 21 rfl) 37 rfl ?_
        refine x_putI C pk_RX2_15 ⟨_, rfl⟩ (hN.sh sh1) (dkAt dk_X2_put 22 rfl) 40 rfl hf (fun M7 hf => ?_)
        refine x_iinc C (v := (x1 + (-8 : Int32))) (L1 := [some (.ref (wad Γ 1)), some (.int p0), some (.int (x1 + (-8 : Int32)))]) (dkAt dk_X2_put 23 rfl) 43 rfl rfl rfl (by decide) rfl ?_
        refine x_goto C 3 (dkAt dk_X2_put 24 rfl) (by decide) ?_
        exact G.weak (L := [some (.ref (wad Γ 1)), some (.int p0), some (.int (x1 + (-8 : Int32)))]) ⟨rfl, rfl, rfl, trivial⟩ (ih _ _ hf)
set_option maxRecDepth 100000 in
theorem c_X2_put {Γ : WC} (hN : HN Γ) {Z : Nat} {M : Mem} {p0 : Int32} {rM : Unit × Mem}  (hf : f_X2_put Z M p0 = some rM) : Ct Γ yX2_put cX2_put 3 none (rmL 0 0 0) [.ref (wad Γ 1), .int p0] M none rM.2 := by
  refine mkN hN.1 (own := RX2) rfl (by decide) (Nat.le_of_ble_eq_true rfl) (fun X C E => ?_)
  change G Γ X M 0 0 [some (.ref (wad Γ 1)), some (.int p0)] [] 0
  unfold f_X2_put at hf
  refine x_bipush C (v := (24 : Int32)) (by decide) (dkAt dk_X2_put 0 rfl) 2 rfl ?_
  refine x_istore_n C (L1 := [some (.ref (wad Γ 1)), some (.int p0), some (.int (24 : Int32))]) (dkAt dk_X2_put 1 rfl) 3 rfl rfl (by decide) rfl ?_
  refine G.weak (L := [some (.ref (wad Γ 1)), some (.int p0), some (.int (24 : Int32))]) ⟨rfl, rfl, rfl, trivial⟩ ?_
  refine l_X2_put_L3 hN C E Z _ _ hf
def f_X2_isLetter (Z : Nat) (M : Mem) (p0 : Int32) : Option (Int32 × Mem) :=
  (if p0 < (97 : Int32) then some ((0 : Int32), M) else (if (122 : Int32) < p0 then some ((0 : Int32), M) else some ((1 : Int32), M)))
set_option maxRecDepth 100000 in
theorem c_X2_isLetter {Γ : WC} (hN : HN Γ) {Z : Nat} {M : Mem} {p0 : Int32} {rM : Int32 × Mem}  (hf : f_X2_isLetter Z M p0 = some rM) : Ct Γ yX2_isLetter cX2_isLetter 1 (some .boolean) (rmL 0 0 0) [.int p0] M (some (.int rM.1)) rM.2 := by
  refine mkN hN.1 (own := RX2) rfl (by decide) (Nat.le_of_ble_eq_true rfl) (fun X C E => ?_)
  change G Γ X M 0 0 [some (.int p0)] [] 0
  unfold f_X2_isLetter at hf
  refine x_iload_n C rfl rfl (dkAt dk_X2_isLetter 0 rfl) 1 rfl ?_
  refine x_bipush C (v := (97 : Int32)) (by decide) (dkAt dk_X2_isLetter 1 rfl) 3 rfl ?_
  refine x_icmp_lt C 16 (dkAt dk_X2_isLetter 2 rfl) 6 rfl (by decide) hf (fun hf => ?_) (fun hf => ?_)
  · refine x_iconst C (v := (0 : Int32)) (by decide) (dkAt dk_X2_isLetter 8 rfl) 17 rfl ?_
    exact x_zret C E (by decide) hf (by decide) (by decide) (dkAt dk_X2_isLetter 9 rfl)
  · refine x_iload_n C rfl rfl (dkAt dk_X2_isLetter 3 rfl) 7 rfl ?_
    refine x_bipush C (v := (122 : Int32)) (by decide) (dkAt dk_X2_isLetter 4 rfl) 9 rfl ?_
    refine x_icmp_gt C 16 (dkAt dk_X2_isLetter 5 rfl) 12 rfl (by decide) hf (fun hf => ?_) (fun hf => ?_)
    · refine x_iconst C (v := (0 : Int32)) (by decide) (dkAt dk_X2_isLetter 8 rfl) 17 rfl ?_
      exact x_zret C E (by decide) hf (by decide) (by decide) (dkAt dk_X2_isLetter 9 rfl)
    · refine x_iconst C (v := (1 : Int32)) (by decide) (dkAt dk_X2_isLetter 6 rfl) 13 rfl ?_
      refine x_goto C 17 (dkAt dk_X2_isLetter 7 rfl) (by decide) ?_
      exact x_zret C E (by decide) hf (by decide) (by decide) (dkAt dk_X2_isLetter 9 rfl)
def f_X2_isDigit (Z : Nat) (M : Mem) (p0 : Int32) : Option (Int32 × Mem) :=
  (if p0 < (48 : Int32) then some ((0 : Int32), M) else (if (57 : Int32) < p0 then some ((0 : Int32), M) else some ((1 : Int32), M)))
set_option maxRecDepth 100000 in
theorem c_X2_isDigit {Γ : WC} (hN : HN Γ) {Z : Nat} {M : Mem} {p0 : Int32} {rM : Int32 × Mem}  (hf : f_X2_isDigit Z M p0 = some rM) : Ct Γ yX2_isDigit cX2_isDigit 1 (some .boolean) (rmL 0 0 0) [.int p0] M (some (.int rM.1)) rM.2 := by
  refine mkN hN.1 (own := RX2) rfl (by decide) (Nat.le_of_ble_eq_true rfl) (fun X C E => ?_)
  change G Γ X M 0 0 [some (.int p0)] [] 0
  unfold f_X2_isDigit at hf
  refine x_iload_n C rfl rfl (dkAt dk_X2_isDigit 0 rfl) 1 rfl ?_
  refine x_bipush C (v := (48 : Int32)) (by decide) (dkAt dk_X2_isDigit 1 rfl) 3 rfl ?_
  refine x_icmp_lt C 16 (dkAt dk_X2_isDigit 2 rfl) 6 rfl (by decide) hf (fun hf => ?_) (fun hf => ?_)
  · refine x_iconst C (v := (0 : Int32)) (by decide) (dkAt dk_X2_isDigit 8 rfl) 17 rfl ?_
    exact x_zret C E (by decide) hf (by decide) (by decide) (dkAt dk_X2_isDigit 9 rfl)
  · refine x_iload_n C rfl rfl (dkAt dk_X2_isDigit 3 rfl) 7 rfl ?_
    refine x_bipush C (v := (57 : Int32)) (by decide) (dkAt dk_X2_isDigit 4 rfl) 9 rfl ?_
    refine x_icmp_gt C 16 (dkAt dk_X2_isDigit 5 rfl) 12 rfl (by decide) hf (fun hf => ?_) (fun hf => ?_)
    · refine x_iconst C (v := (0 : Int32)) (by decide) (dkAt dk_X2_isDigit 8 rfl) 17 rfl ?_
      exact x_zret C E (by decide) hf (by decide) (by decide) (dkAt dk_X2_isDigit 9 rfl)
    · refine x_iconst C (v := (1 : Int32)) (by decide) (dkAt dk_X2_isDigit 6 rfl) 13 rfl ?_
      refine x_goto C 17 (dkAt dk_X2_isDigit 7 rfl) (by decide) ?_
      exact x_zret C E (by decide) hf (by decide) (by decide) (dkAt dk_X2_isDigit 9 rfl)
def f_X2_advance_L8 (Z : Nat) (k : Mem → Option (Unit × Mem)) : Nat → Mem → Option (Unit × Mem)
  | 0, _ => none
  | n + 1, M3 => bd (gI M3 (1) 4) (fun v4 => bd (gI M3 (1) 2) (fun v5 => (if v5 ≤ v4 then k M3 else bd (gI M3 (1) 4) (fun v6 => rdI M3 2 1200 v6 (fun v7 => (if v7 = (32 : Int32) then bd (gI M3 (1) 4) (fun v8 => bd (sI M3 (1) 4 (v8 + (1 : Int32))) (fun M9 => f_X2_advance_L8 Z k n M9)) else k M3))))))
def f_X2_advance_L173 (Z : Nat) (k : Mem → Option (Unit × Mem)) : Nat → Mem → Option (Unit × Mem)
  | 0, _ => none
  | n + 1, M33 => bd (gI M33 (1) 5) (fun v34 => bd (gI M33 (1) 2) (fun v35 => (if v35 ≤ v34 then k M33 else bd (gI M33 (1) 5) (fun v36 => rdI M33 2 1200 v36 (fun v37 => cl (f_X2_isDigit Z M33 v37) (fun v38 M39 => (if v38 = 0 then k M39 else bd (gI M39 (1) 6) (fun v40 => bd (gI M39 (1) 5) (fun v41 => rdI M39 2 1200 v41 (fun v42 => bd (sI M39 (1) 6 ((v40 * (10 : Int32)) + (v42 - (48 : Int32)))) (fun M43 => bd (gI M43 (1) 5) (fun v44 => bd (sI M43 (1) 5 (v44 + (1 : Int32))) (fun M45 => f_X2_advance_L173 Z k n M45)))))))))))))
def f_X2_advance_L88 (Z : Nat) (k : Mem → Option (Unit × Mem)) : Nat → Mem → Option (Unit × Mem)
  | 0, _ => none
  | n + 1, M53 => bd (gI M53 (1) 5) (fun v54 => bd (gI M53 (1) 2) (fun v55 => (if v55 ≤ v54 then k M53 else bd (gI M53 (1) 5) (fun v56 => rdI M53 2 1200 v56 (fun v57 => cl (f_X2_isLetter Z M53 v57) (fun v58 M59 => (if v58 = 0 then k M59 else bd (gI M59 (1) 5) (fun v60 => bd (sI M59 (1) 5 (v60 + (1 : Int32))) (fun M61 => f_X2_advance_L88 Z k n M61)))))))))
def f_X2_advance (Z : Nat) (M : Mem)  : Option (Unit × Mem) :=
  bd (gI M (1) 5) (fun v1 => bd (sI M (1) 4 v1) (fun M2 => f_X2_advance_L8 Z (fun (M10 : Mem) => bd (gI M10 (1) 4) (fun v11 => bd (sI M10 (1) 5 v11) (fun M12 => bd (gI M12 (1) 4) (fun v13 => bd (gI M12 (1) 2) (fun v14 => (if v13 < v14 then bd (gI M12 (1) 4) (fun v15 => rdI M12 2 1200 v15 (fun v16 => cl (f_X2_isLetter Z M12 v16) (fun v17 M18 => (if v17 = 0 then bd (gI M18 (1) 4) (fun v19 => rdI M18 2 1200 v19 (fun v20 => cl (f_X2_isDigit Z M18 v20) (fun v21 M22 => (if v21 = 0 then bd (gI M22 (1) 4) (fun v23 => rdI M22 2 1200 v23 (fun v24 => jn (fun (t25 : Int32) => bd (sI M22 (1) 3 t25) (fun M26 => bd (gI M26 (1) 4) (fun v27 => bd (sI M26 (1) 5 (v27 + (1 : Int32))) (fun M28 => some ((), M28))))) (fun j29 => (if v24 = (45 : Int32) then j29 (3 : Int32) else bd (gI M22 (1) 4) (fun v30 => rdI M22 2 1200 v30 (fun v31 => (if v31 = (59 : Int32) then j29 (4 : Int32) else j29 (5 : Int32)))))))) else bd (sI M22 (1) 6 (0 : Int32)) (fun M32 => f_X2_advance_L173 Z (fun (M47 : Mem) => bd (gI M47 (1) 5) (fun v48 => bd (gI M47 (1) 4) (fun v49 => (if (5 : Int32) < (v48 - v49) then bd (sI M47 (1) 3 (5 : Int32)) (fun M50 => some ((), M50)) else bd (sI M47 (1) 3 (2 : Int32)) (fun M51 => some ((), M51)))))) Z M32))))) else f_X2_advance_L88 Z (fun (M63 : Mem) => bd (gI M63 (1) 5) (fun v64 => bd (gI M63 (1) 4) (fun v65 => (if (8 : Int32) < (v64 - v65) then bd (sI M63 (1) 3 (5 : Int32)) (fun M66 => some ((), M66)) else bd (sI M63 (1) 3 (1 : Int32)) (fun M67 => some ((), M67)))))) Z M18)))) else bd (sI M12 (1) 3 (0 : Int32)) (fun M69 => some ((), M69)))))))) Z M2))
set_option maxRecDepth 100000 in
theorem l_X2_advance_L8 {Γ : WC} {X : MX} (hN : HN Γ) (C : CX Γ X cX2_advance 1 RX2 none (rmL 1 0 0)) {rM : Unit × Mem} (E : EndN Γ X none rM.2 0 0) {Z : Nat} {k : Mem → Option (Unit × Mem)} (hk : ∀  (Mx : Mem), k Mx = some rM → G Γ X Mx 0 0 [some (.ref (wad Γ 1))] [] 46) : ∀ (n : Nat) (M3 : Mem), f_X2_advance_L8 Z k n M3 = some rM → G Γ X M3 0 0 [some (.ref (wad Γ 1))] [] 8 := by
  intro n
  induction n with
  | zero =>
    intro M3 hf
    have hf0 : (none : Option _) = some rM := hf
    cases hf0
  | succ n ih =>
    intro M3 hf
    rw [f_X2_advance_L8] at hf
    refine x_aload_n C rfl rfl (dkAt dk_X2_advance 4 rfl) 9 rfl ?_
    refine x_getI C lk_RX2_34 (hN.sh sh1) (dkAt dk_X2_advance 5 rfl) 12 rfl hf (fun v4 hf => ?_)
    refine x_aload_n C rfl rfl (dkAt dk_X2_advance 6 rfl) 13 rfl ?_
    refine x_getI C lk_RX2_25 (hN.sh sh1) (dkAt dk_X2_advance 7 rfl) 16 rfl hf (fun v5 hf => ?_)
    refine x_icmp_ge C 46 (dkAt dk_X2_advance 8 rfl) 19 rfl (by decide) hf (fun hf => ?_) (fun hf => ?_)
    · exact G.weak (L := [some (.ref (wad Γ 1))]) ⟨rfl, trivial⟩ (hk _ hf)
    · refine x_aload_n C rfl rfl (dkAt dk_X2_advance 9 rfl) 20 rfl ?_
      refine x_getS C lk_RX2_9 (hN.sh sh1) (hN.sr sr1_0) (dkAt dk_X2_advance 10 rfl) 23 rfl ?_
      refine x_aload_n C rfl rfl (dkAt dk_X2_advance 11 rfl) 24 rfl ?_
      refine x_getI C lk_RX2_34 (hN.sh sh1) (dkAt dk_X2_advance 12 rfl) 27 rfl hf (fun v6 hf => ?_)
      refine x_bald C (hN.sh sh2) (dkAt dk_X2_advance 13 rfl) 28 rfl hf (fun v7 hf => ?_)
      refine x_bipush C (v := (32 : Int32)) (by decide) (dkAt dk_X2_advance 14 rfl) 30 rfl ?_
      refine x_icmp_ne C 46 (dkAt dk_X2_advance 15 rfl) 33 rfl (by decide) hf (fun hf => ?_) (fun hf => ?_)
      · exact G.weak (L := [some (.ref (wad Γ 1))]) ⟨rfl, trivial⟩ (hk _ hf)
      · refine x_aload_n C rfl rfl (dkAt dk_X2_advance 16 rfl) 34 rfl ?_
        refine x_dup C rfl (dkAt dk_X2_advance 17 rfl) 35 rfl ?_
        refine x_getI C lk_RX2_34 (hN.sh sh1) (dkAt dk_X2_advance 18 rfl) 38 rfl hf (fun v8 hf => ?_)
        refine x_iconst C (v := (1 : Int32)) (by decide) (dkAt dk_X2_advance 19 rfl) 39 rfl ?_
        refine x_iadd C (dkAt dk_X2_advance 20 rfl) 40 rfl ?_
        refine x_putI C pk_RX2_34 ⟨_, rfl⟩ (hN.sh sh1) (dkAt dk_X2_advance 21 rfl) 43 rfl hf (fun M9 hf => ?_)
        refine x_goto C 8 (dkAt dk_X2_advance 22 rfl) (by decide) ?_
        exact G.weak (L := [some (.ref (wad Γ 1))]) ⟨rfl, trivial⟩ (ih _ hf)
set_option maxRecDepth 100000 in
theorem l_X2_advance_L173 {Γ : WC} {X : MX} (hN : HN Γ) (C : CX Γ X cX2_advance 1 RX2 none (rmL 1 0 0)) {rM : Unit × Mem} (E : EndN Γ X none rM.2 0 0) {Z : Nat} {k : Mem → Option (Unit × Mem)} (hk : ∀  (Mx : Mem), k Mx = some rM → G Γ X Mx 0 0 [some (.ref (wad Γ 1))] [] 236) : ∀ (n : Nat) (M33 : Mem), f_X2_advance_L173 Z k n M33 = some rM → G Γ X M33 0 0 [some (.ref (wad Γ 1))] [] 173 := by
  intro n
  induction n with
  | zero =>
    intro M33 hf
    have hf0 : (none : Option _) = some rM := hf
    cases hf0
  | succ n ih =>
    intro M33 hf
    rw [f_X2_advance_L173] at hf
    refine x_aload_n C rfl rfl (dkAt dk_X2_advance 85 rfl) 174 rfl ?_
    refine x_getI C lk_RX2_28 (hN.sh sh1) (dkAt dk_X2_advance 86 rfl) 177 rfl hf (fun v34 hf => ?_)
    refine x_aload_n C rfl rfl (dkAt dk_X2_advance 87 rfl) 178 rfl ?_
    refine x_getI C lk_RX2_25 (hN.sh sh1) (dkAt dk_X2_advance 88 rfl) 181 rfl hf (fun v35 hf => ?_)
    refine x_icmp_ge C 236 (dkAt dk_X2_advance 89 rfl) 184 rfl (by decide) hf (fun hf => ?_) (fun hf => ?_)
    · exact G.weak (L := [some (.ref (wad Γ 1))]) ⟨rfl, trivial⟩ (hk _ hf)
    · refine x_aload_n C rfl rfl (dkAt dk_X2_advance 90 rfl) 185 rfl ?_
      refine x_getS C lk_RX2_9 (hN.sh sh1) (hN.sr sr1_0) (dkAt dk_X2_advance 91 rfl) 188 rfl ?_
      refine x_aload_n C rfl rfl (dkAt dk_X2_advance 92 rfl) 189 rfl ?_
      refine x_getI C lk_RX2_28 (hN.sh sh1) (dkAt dk_X2_advance 93 rfl) 192 rfl hf (fun v36 hf => ?_)
      refine x_bald C (hN.sh sh2) (dkAt dk_X2_advance 94 rfl) 193 rfl hf (fun v37 hf => ?_)
      obtain ⟨v38, M39, h46, hf⟩ := cl_inv hf
      refine x_cSi C (c_X2_isDigit hN h46) mw_X2_isDigit ln_RX2_44 ms_X2_isDigit (ro_of (by decide) (by decide) (by decide) (by decide)) rfl rfl (Nat.le_of_ble_eq_true rfl) (dkAt dk_X2_advance 95 rfl) 196 rfl 0 0 rfl rfl ?_
      refine x_if_eq C 236 (dkAt dk_X2_advance 96 rfl) 199 rfl (by decide) hf (fun hf => ?_) (fun hf => ?_)
      · exact G.weak (L := [some (.ref (wad Γ 1))]) ⟨rfl, trivial⟩ (hk _ hf)
      · refine x_aload_n C rfl rfl (dkAt dk_X2_advance 97 rfl) 200 rfl ?_
        refine x_aload_n C rfl rfl (dkAt dk_X2_advance 98 rfl) 201 rfl ?_
        refine x_getI C lk_RX2_47 (hN.sh sh1) (dkAt dk_X2_advance 99 rfl) 204 rfl hf (fun v40 hf => ?_)
        refine x_bipush C (v := (10 : Int32)) (by decide) (dkAt dk_X2_advance 100 rfl) 206 rfl ?_
        refine x_imul C (dkAt dk_X2_advance 101 rfl) 207 rfl ?_
        refine x_aload_n C rfl rfl (dkAt dk_X2_advance 102 rfl) 208 rfl ?_
        refine x_getS C lk_RX2_9 (hN.sh sh1) (hN.sr sr1_0) (dkAt dk_X2_advance 103 rfl) 211 rfl ?_
        refine x_aload_n C rfl rfl (dkAt dk_X2_advance 104 rfl) 212 rfl ?_
        refine x_getI C lk_RX2_28 (hN.sh sh1) (dkAt dk_X2_advance 105 rfl) 215 rfl hf (fun v41 hf => ?_)
        refine x_bald C (hN.sh sh2) (dkAt dk_X2_advance 106 rfl) 216 rfl hf (fun v42 hf => ?_)
        refine x_bipush C (v := (48 : Int32)) (by decide) (dkAt dk_X2_advance 107 rfl) 218 rfl ?_
        refine x_isub C (dkAt dk_X2_advance 108 rfl) 219 rfl ?_
        refine x_iadd C (dkAt dk_X2_advance 109 rfl) 220 rfl ?_
        refine x_putI C pk_RX2_47 ⟨_, rfl⟩ (hN.sh sh1) (dkAt dk_X2_advance 110 rfl) 223 rfl hf (fun M43 hf => ?_)
        refine x_aload_n C rfl rfl (dkAt dk_X2_advance 111 rfl) 224 rfl ?_
        refine x_dup C rfl (dkAt dk_X2_advance 112 rfl) 225 rfl ?_
        refine x_getI C lk_RX2_28 (hN.sh sh1) (dkAt dk_X2_advance 113 rfl) 228 rfl hf (fun v44 hf => ?_)
        refine x_iconst C (v := (1 : Int32)) (by decide) (dkAt dk_X2_advance 114 rfl) 229 rfl ?_
        refine x_iadd C (dkAt dk_X2_advance 115 rfl) 230 rfl ?_
        refine x_putI C pk_RX2_28 ⟨_, rfl⟩ (hN.sh sh1) (dkAt dk_X2_advance 116 rfl) 233 rfl hf (fun M45 hf => ?_)
        refine x_goto C 173 (dkAt dk_X2_advance 117 rfl) (by decide) ?_
        exact G.weak (L := [some (.ref (wad Γ 1))]) ⟨rfl, trivial⟩ (ih _ hf)
set_option maxRecDepth 100000 in
theorem l_X2_advance_L88 {Γ : WC} {X : MX} (hN : HN Γ) (C : CX Γ X cX2_advance 1 RX2 none (rmL 1 0 0)) {rM : Unit × Mem} (E : EndN Γ X none rM.2 0 0) {Z : Nat} {k : Mem → Option (Unit × Mem)} (hk : ∀  (Mx : Mem), k Mx = some rM → G Γ X Mx 0 0 [some (.ref (wad Γ 1))] [] 127) : ∀ (n : Nat) (M53 : Mem), f_X2_advance_L88 Z k n M53 = some rM → G Γ X M53 0 0 [some (.ref (wad Γ 1))] [] 88 := by
  intro n
  induction n with
  | zero =>
    intro M53 hf
    have hf0 : (none : Option _) = some rM := hf
    cases hf0
  | succ n ih =>
    intro M53 hf
    rw [f_X2_advance_L88] at hf
    refine x_aload_n C rfl rfl (dkAt dk_X2_advance 43 rfl) 89 rfl ?_
    refine x_getI C lk_RX2_28 (hN.sh sh1) (dkAt dk_X2_advance 44 rfl) 92 rfl hf (fun v54 hf => ?_)
    refine x_aload_n C rfl rfl (dkAt dk_X2_advance 45 rfl) 93 rfl ?_
    refine x_getI C lk_RX2_25 (hN.sh sh1) (dkAt dk_X2_advance 46 rfl) 96 rfl hf (fun v55 hf => ?_)
    refine x_icmp_ge C 127 (dkAt dk_X2_advance 47 rfl) 99 rfl (by decide) hf (fun hf => ?_) (fun hf => ?_)
    · exact G.weak (L := [some (.ref (wad Γ 1))]) ⟨rfl, trivial⟩ (hk _ hf)
    · refine x_aload_n C rfl rfl (dkAt dk_X2_advance 48 rfl) 100 rfl ?_
      refine x_getS C lk_RX2_9 (hN.sh sh1) (hN.sr sr1_0) (dkAt dk_X2_advance 49 rfl) 103 rfl ?_
      refine x_aload_n C rfl rfl (dkAt dk_X2_advance 50 rfl) 104 rfl ?_
      refine x_getI C lk_RX2_28 (hN.sh sh1) (dkAt dk_X2_advance 51 rfl) 107 rfl hf (fun v56 hf => ?_)
      refine x_bald C (hN.sh sh2) (dkAt dk_X2_advance 52 rfl) 108 rfl hf (fun v57 hf => ?_)
      obtain ⟨v58, M59, h62, hf⟩ := cl_inv hf
      refine x_cSi C (c_X2_isLetter hN h62) mw_X2_isLetter ln_RX2_40 ms_X2_isLetter (ro_of (by decide) (by decide) (by decide) (by decide)) rfl rfl (Nat.le_of_ble_eq_true rfl) (dkAt dk_X2_advance 53 rfl) 111 rfl 0 0 rfl rfl ?_
      refine x_if_eq C 127 (dkAt dk_X2_advance 54 rfl) 114 rfl (by decide) hf (fun hf => ?_) (fun hf => ?_)
      · exact G.weak (L := [some (.ref (wad Γ 1))]) ⟨rfl, trivial⟩ (hk _ hf)
      · refine x_aload_n C rfl rfl (dkAt dk_X2_advance 55 rfl) 115 rfl ?_
        refine x_dup C rfl (dkAt dk_X2_advance 56 rfl) 116 rfl ?_
        refine x_getI C lk_RX2_28 (hN.sh sh1) (dkAt dk_X2_advance 57 rfl) 119 rfl hf (fun v60 hf => ?_)
        refine x_iconst C (v := (1 : Int32)) (by decide) (dkAt dk_X2_advance 58 rfl) 120 rfl ?_
        refine x_iadd C (dkAt dk_X2_advance 59 rfl) 121 rfl ?_
        refine x_putI C pk_RX2_28 ⟨_, rfl⟩ (hN.sh sh1) (dkAt dk_X2_advance 60 rfl) 124 rfl hf (fun M61 hf => ?_)
        refine x_goto C 88 (dkAt dk_X2_advance 61 rfl) (by decide) ?_
        exact G.weak (L := [some (.ref (wad Γ 1))]) ⟨rfl, trivial⟩ (ih _ hf)
set_option maxRecDepth 100000 in
theorem c_X2_advance {Γ : WC} (hN : HN Γ) {Z : Nat} {M : Mem}  {rM : Unit × Mem}  (hf : f_X2_advance Z M  = some rM) : Ct Γ yX2_advance cX2_advance 1 none (rmL 1 0 0) [.ref (wad Γ 1)] M none rM.2 := by
  refine mkN hN.1 (own := RX2) rfl (by decide) (Nat.le_of_ble_eq_true rfl) (fun X C E => ?_)
  change G Γ X M 0 0 [some (.ref (wad Γ 1))] [] 0
  unfold f_X2_advance at hf
  refine x_aload_n C rfl rfl (dkAt dk_X2_advance 0 rfl) 1 rfl ?_
  refine x_aload_n C rfl rfl (dkAt dk_X2_advance 1 rfl) 2 rfl ?_
  refine x_getI C lk_RX2_28 (hN.sh sh1) (dkAt dk_X2_advance 2 rfl) 5 rfl hf (fun v1 hf => ?_)
  refine x_putI C pk_RX2_34 ⟨_, rfl⟩ (hN.sh sh1) (dkAt dk_X2_advance 3 rfl) 8 rfl hf (fun M2 hf => ?_)
  refine G.weak (L := [some (.ref (wad Γ 1))]) ⟨rfl, trivial⟩ ?_
  refine l_X2_advance_L8 hN C E ?_ Z _ hf
  intro M10 hf
  refine x_aload_n C rfl rfl (dkAt dk_X2_advance 23 rfl) 47 rfl ?_
  refine x_aload_n C rfl rfl (dkAt dk_X2_advance 24 rfl) 48 rfl ?_
  refine x_getI C lk_RX2_34 (hN.sh sh1) (dkAt dk_X2_advance 25 rfl) 51 rfl hf (fun v11 hf => ?_)
  refine x_putI C pk_RX2_28 ⟨_, rfl⟩ (hN.sh sh1) (dkAt dk_X2_advance 26 rfl) 54 rfl hf (fun M12 hf => ?_)
  refine x_aload_n C rfl rfl (dkAt dk_X2_advance 27 rfl) 55 rfl ?_
  refine x_getI C lk_RX2_34 (hN.sh sh1) (dkAt dk_X2_advance 28 rfl) 58 rfl hf (fun v13 hf => ?_)
  refine x_aload_n C rfl rfl (dkAt dk_X2_advance 29 rfl) 59 rfl ?_
  refine x_getI C lk_RX2_25 (hN.sh sh1) (dkAt dk_X2_advance 30 rfl) 62 rfl hf (fun v14 hf => ?_)
  refine x_icmp_lt C 73 (dkAt dk_X2_advance 31 rfl) 65 rfl (by decide) hf (fun hf => ?_) (fun hf => ?_)
  · refine x_aload_n C rfl rfl (dkAt dk_X2_advance 36 rfl) 74 rfl ?_
    refine x_getS C lk_RX2_9 (hN.sh sh1) (hN.sr sr1_0) (dkAt dk_X2_advance 37 rfl) 77 rfl ?_
    refine x_aload_n C rfl rfl (dkAt dk_X2_advance 38 rfl) 78 rfl ?_
    refine x_getI C lk_RX2_34 (hN.sh sh1) (dkAt dk_X2_advance 39 rfl) 81 rfl hf (fun v15 hf => ?_)
    refine x_bald C (hN.sh sh2) (dkAt dk_X2_advance 40 rfl) 82 rfl hf (fun v16 hf => ?_)
    obtain ⟨v17, M18, h68, hf⟩ := cl_inv hf
    refine x_cSi C (c_X2_isLetter hN h68) mw_X2_isLetter ln_RX2_40 ms_X2_isLetter (ro_of (by decide) (by decide) (by decide) (by decide)) rfl rfl (Nat.le_of_ble_eq_true rfl) (dkAt dk_X2_advance 41 rfl) 85 rfl 0 0 rfl rfl ?_
    refine x_if_eq C 153 (dkAt dk_X2_advance 42 rfl) 88 rfl (by decide) hf (fun hf => ?_) (fun hf => ?_)
    · refine x_aload_n C rfl rfl (dkAt dk_X2_advance 75 rfl) 154 rfl ?_
      refine x_getS C lk_RX2_9 (hN.sh sh1) (hN.sr sr1_0) (dkAt dk_X2_advance 76 rfl) 157 rfl ?_
      refine x_aload_n C rfl rfl (dkAt dk_X2_advance 77 rfl) 158 rfl ?_
      refine x_getI C lk_RX2_34 (hN.sh sh1) (dkAt dk_X2_advance 78 rfl) 161 rfl hf (fun v19 hf => ?_)
      refine x_bald C (hN.sh sh2) (dkAt dk_X2_advance 79 rfl) 162 rfl hf (fun v20 hf => ?_)
      obtain ⟨v21, M22, h52, hf⟩ := cl_inv hf
      refine x_cSi C (c_X2_isDigit hN h52) mw_X2_isDigit ln_RX2_44 ms_X2_isDigit (ro_of (by decide) (by decide) (by decide) (by decide)) rfl rfl (Nat.le_of_ble_eq_true rfl) (dkAt dk_X2_advance 80 rfl) 165 rfl 0 0 rfl rfl ?_
      refine x_if_eq C 261 (dkAt dk_X2_advance 81 rfl) 168 rfl (by decide) hf (fun hf => ?_) (fun hf => ?_)
      · refine x_aload_n C rfl rfl (dkAt dk_X2_advance 131 rfl) 262 rfl ?_
        refine x_aload_n C rfl rfl (dkAt dk_X2_advance 132 rfl) 263 rfl ?_
        refine x_getS C lk_RX2_9 (hN.sh sh1) (hN.sr sr1_0) (dkAt dk_X2_advance 133 rfl) 266 rfl ?_
        refine x_aload_n C rfl rfl (dkAt dk_X2_advance 134 rfl) 267 rfl ?_
        refine x_getI C lk_RX2_34 (hN.sh sh1) (dkAt dk_X2_advance 135 rfl) 270 rfl hf (fun v23 hf => ?_)
        refine x_bald C (hN.sh sh2) (dkAt dk_X2_advance 136 rfl) 271 rfl hf (fun v24 hf => ?_)
        refine x_bipush C (v := (45 : Int32)) (by decide) (dkAt dk_X2_advance 137 rfl) 273 rfl ?_
        refine x_join hf (fun t25 => G Γ X M22 0 0 [some (.ref (wad Γ 1))] [.int t25, .ref (wad Γ 1)] 299) (fun t25 hf => ?_) (fun j29 hj29 hf => ?_)
        · refine x_putI C pk_RX2_37 ⟨_, rfl⟩ (hN.sh sh1) (dkAt dk_X2_advance 151 rfl) 302 rfl hf (fun M26 hf => ?_)
          refine x_aload_n C rfl rfl (dkAt dk_X2_advance 152 rfl) 303 rfl ?_
          refine x_aload_n C rfl rfl (dkAt dk_X2_advance 153 rfl) 304 rfl ?_
          refine x_getI C lk_RX2_34 (hN.sh sh1) (dkAt dk_X2_advance 154 rfl) 307 rfl hf (fun v27 hf => ?_)
          refine x_iconst C (v := (1 : Int32)) (by decide) (dkAt dk_X2_advance 155 rfl) 308 rfl ?_
          refine x_iadd C (dkAt dk_X2_advance 156 rfl) 309 rfl ?_
          refine x_putI C pk_RX2_28 ⟨_, rfl⟩ (hN.sh sh1) (dkAt dk_X2_advance 157 rfl) 312 rfl hf (fun M28 hf => ?_)
          exact x_vret C E hf (by decide) (by decide) (dkAt dk_X2_advance 158 rfl)
        · refine x_icmp_ne C 280 (dkAt dk_X2_advance 138 rfl) 276 rfl (by decide) hf (fun hf => ?_) (fun hf => ?_)
          · refine x_aload_n C rfl rfl (dkAt dk_X2_advance 141 rfl) 281 rfl ?_
            refine x_getS C lk_RX2_9 (hN.sh sh1) (hN.sr sr1_0) (dkAt dk_X2_advance 142 rfl) 284 rfl ?_
            refine x_aload_n C rfl rfl (dkAt dk_X2_advance 143 rfl) 285 rfl ?_
            refine x_getI C lk_RX2_34 (hN.sh sh1) (dkAt dk_X2_advance 144 rfl) 288 rfl hf (fun v30 hf => ?_)
            refine x_bald C (hN.sh sh2) (dkAt dk_X2_advance 145 rfl) 289 rfl hf (fun v31 hf => ?_)
            refine x_bipush C (v := (59 : Int32)) (by decide) (dkAt dk_X2_advance 146 rfl) 291 rfl ?_
            refine x_icmp_ne C 298 (dkAt dk_X2_advance 147 rfl) 294 rfl (by decide) hf (fun hf => ?_) (fun hf => ?_)
            · refine x_iconst C (v := (5 : Int32)) (by decide) (dkAt dk_X2_advance 150 rfl) 299 rfl ?_
              exact G.weak (L := [some (.ref (wad Γ 1))]) ⟨rfl, trivial⟩ (hj29 _ hf)
            · refine x_iconst C (v := (4 : Int32)) (by decide) (dkAt dk_X2_advance 148 rfl) 295 rfl ?_
              refine x_goto C 299 (dkAt dk_X2_advance 149 rfl) (by decide) ?_
              exact G.weak (L := [some (.ref (wad Γ 1))]) ⟨rfl, trivial⟩ (hj29 _ hf)
          · refine x_iconst C (v := (3 : Int32)) (by decide) (dkAt dk_X2_advance 139 rfl) 277 rfl ?_
            refine x_goto C 299 (dkAt dk_X2_advance 140 rfl) (by decide) ?_
            exact G.weak (L := [some (.ref (wad Γ 1))]) ⟨rfl, trivial⟩ (hj29 _ hf)
      · refine x_aload_n C rfl rfl (dkAt dk_X2_advance 82 rfl) 169 rfl ?_
        refine x_iconst C (v := (0 : Int32)) (by decide) (dkAt dk_X2_advance 83 rfl) 170 rfl ?_
        refine x_putI C pk_RX2_47 ⟨_, rfl⟩ (hN.sh sh1) (dkAt dk_X2_advance 84 rfl) 173 rfl hf (fun M32 hf => ?_)
        refine G.weak (L := [some (.ref (wad Γ 1))]) ⟨rfl, trivial⟩ ?_
        refine l_X2_advance_L173 hN C E ?_ Z _ hf
        intro M47 hf
        refine x_aload_n C rfl rfl (dkAt dk_X2_advance 118 rfl) 237 rfl ?_
        refine x_aload_n C rfl rfl (dkAt dk_X2_advance 119 rfl) 238 rfl ?_
        refine x_getI C lk_RX2_28 (hN.sh sh1) (dkAt dk_X2_advance 120 rfl) 241 rfl hf (fun v48 hf => ?_)
        refine x_aload_n C rfl rfl (dkAt dk_X2_advance 121 rfl) 242 rfl ?_
        refine x_getI C lk_RX2_34 (hN.sh sh1) (dkAt dk_X2_advance 122 rfl) 245 rfl hf (fun v49 hf => ?_)
        refine x_isub C (dkAt dk_X2_advance 123 rfl) 246 rfl ?_
        refine x_iconst C (v := (5 : Int32)) (by decide) (dkAt dk_X2_advance 124 rfl) 247 rfl ?_
        refine x_icmp_gt C 254 (dkAt dk_X2_advance 125 rfl) 250 rfl (by decide) hf (fun hf => ?_) (fun hf => ?_)
        · refine x_iconst C (v := (5 : Int32)) (by decide) (dkAt dk_X2_advance 128 rfl) 255 rfl ?_
          refine x_putI C pk_RX2_37 ⟨_, rfl⟩ (hN.sh sh1) (dkAt dk_X2_advance 129 rfl) 258 rfl hf (fun M50 hf => ?_)
          refine x_goto C 312 (dkAt dk_X2_advance 130 rfl) (by decide) ?_
          exact x_vret C E hf (by decide) (by decide) (dkAt dk_X2_advance 158 rfl)
        · refine x_iconst C (v := (2 : Int32)) (by decide) (dkAt dk_X2_advance 126 rfl) 251 rfl ?_
          refine x_goto C 255 (dkAt dk_X2_advance 127 rfl) (by decide) ?_
          refine x_putI C pk_RX2_37 ⟨_, rfl⟩ (hN.sh sh1) (dkAt dk_X2_advance 129 rfl) 258 rfl hf (fun M51 hf => ?_)
          refine x_goto C 312 (dkAt dk_X2_advance 130 rfl) (by decide) ?_
          exact x_vret C E hf (by decide) (by decide) (dkAt dk_X2_advance 158 rfl)
    · refine G.weak (L := [some (.ref (wad Γ 1))]) ⟨rfl, trivial⟩ ?_
      refine l_X2_advance_L88 hN C E ?_ Z _ hf
      intro M63 hf
      refine x_aload_n C rfl rfl (dkAt dk_X2_advance 62 rfl) 128 rfl ?_
      refine x_aload_n C rfl rfl (dkAt dk_X2_advance 63 rfl) 129 rfl ?_
      refine x_getI C lk_RX2_28 (hN.sh sh1) (dkAt dk_X2_advance 64 rfl) 132 rfl hf (fun v64 hf => ?_)
      refine x_aload_n C rfl rfl (dkAt dk_X2_advance 65 rfl) 133 rfl ?_
      refine x_getI C lk_RX2_34 (hN.sh sh1) (dkAt dk_X2_advance 66 rfl) 136 rfl hf (fun v65 hf => ?_)
      refine x_isub C (dkAt dk_X2_advance 67 rfl) 137 rfl ?_
      refine x_bipush C (v := (8 : Int32)) (by decide) (dkAt dk_X2_advance 68 rfl) 139 rfl ?_
      refine x_icmp_gt C 146 (dkAt dk_X2_advance 69 rfl) 142 rfl (by decide) hf (fun hf => ?_) (fun hf => ?_)
      · refine x_iconst C (v := (5 : Int32)) (by decide) (dkAt dk_X2_advance 72 rfl) 147 rfl ?_
        refine x_putI C pk_RX2_37 ⟨_, rfl⟩ (hN.sh sh1) (dkAt dk_X2_advance 73 rfl) 150 rfl hf (fun M66 hf => ?_)
        refine x_goto C 312 (dkAt dk_X2_advance 74 rfl) (by decide) ?_
        exact x_vret C E hf (by decide) (by decide) (dkAt dk_X2_advance 158 rfl)
      · refine x_iconst C (v := (1 : Int32)) (by decide) (dkAt dk_X2_advance 70 rfl) 143 rfl ?_
        refine x_goto C 147 (dkAt dk_X2_advance 71 rfl) (by decide) ?_
        refine x_putI C pk_RX2_37 ⟨_, rfl⟩ (hN.sh sh1) (dkAt dk_X2_advance 73 rfl) 150 rfl hf (fun M67 hf => ?_)
        refine x_goto C 312 (dkAt dk_X2_advance 74 rfl) (by decide) ?_
        exact x_vret C E hf (by decide) (by decide) (dkAt dk_X2_advance 158 rfl)
  · refine x_aload_n C rfl rfl (dkAt dk_X2_advance 32 rfl) 66 rfl ?_
    refine x_iconst C (v := (0 : Int32)) (by decide) (dkAt dk_X2_advance 33 rfl) 67 rfl ?_
    refine x_putI C pk_RX2_37 ⟨_, rfl⟩ (hN.sh sh1) (dkAt dk_X2_advance 34 rfl) 70 rfl hf (fun M69 hf => ?_)
    refine x_goto C 312 (dkAt dk_X2_advance 35 rfl) (by decide) ?_
    exact x_vret C E hf (by decide) (by decide) (dkAt dk_X2_advance 158 rfl)
def f_X2_begin (Z : Nat) (M : Mem) (p0 : Int32) : Option (Unit × Mem) :=
  bd (if (1200 : Int32) < p0 then (1200 : Int32) else p0) (fun v1 => bd (sI M (1) 2 v1) (fun M2 => bd (sI M2 (1) 5 (0 : Int32)) (fun M3 => cl (f_X2_advance Z M3) (fun v4 M5 => some ((), M5)))))
set_option maxRecDepth 100000 in
theorem c_X2_begin {Γ : WC} (hN : HN Γ) {Z : Nat} {M : Mem} {p0 : Int32} {rM : Unit × Mem}  (hf : f_X2_begin Z M p0 = some rM) : Ct Γ yX2_begin cX2_begin 2 none (rmL 2 0 0) [.ref (wad Γ 1), .int p0] M none rM.2 := by
  refine mkN hN.1 (own := RX2) rfl (by decide) (Nat.le_of_ble_eq_true rfl) (fun X C E => ?_)
  change G Γ X M 0 0 [some (.ref (wad Γ 1)), some (.int p0)] [] 0
  unfold f_X2_begin at hf
  refine x_aload_n C rfl rfl (dkAt dk_X2_begin 0 rfl) 1 rfl ?_
  refine x_iload_n C rfl rfl (dkAt dk_X2_begin 1 rfl) 2 rfl ?_
  refine x_sipush C (v := (1200 : Int32)) (by decide) (dkAt dk_X2_begin 2 rfl) 5 rfl ?_
  refine x_minI C ln_RX2_19 ⟨by decide, by decide, by decide, by decide⟩ (Nat.le_of_ble_eq_true rfl) (dkAt dk_X2_begin 3 rfl) 8 rfl hf (fun v1 hf => ?_)
  refine x_putI C pk_RX2_25 ⟨_, rfl⟩ (hN.sh sh1) (dkAt dk_X2_begin 4 rfl) 11 rfl hf (fun M2 hf => ?_)
  refine x_aload_n C rfl rfl (dkAt dk_X2_begin 5 rfl) 12 rfl ?_
  refine x_iconst C (v := (0 : Int32)) (by decide) (dkAt dk_X2_begin 6 rfl) 13 rfl ?_
  refine x_putI C pk_RX2_28 ⟨_, rfl⟩ (hN.sh sh1) (dkAt dk_X2_begin 7 rfl) 16 rfl hf (fun M3 hf => ?_)
  refine x_aload_n C rfl rfl (dkAt dk_X2_begin 8 rfl) 17 rfl ?_
  obtain ⟨v4, M5, h6, hf⟩ := cl_inv hf
  refine x_cVv C (c_X2_advance hN h6) mw_X2_advance ln_RX2_31 mi_X2_advance (hN.rc (ci := 2) sh1 rc2) (ro_of (by decide) (by decide) (by decide) (by decide)) rfl rfl (Nat.le_of_ble_eq_true rfl) (dkAt dk_X2_begin 9 rfl) 20 rfl 0 0 rfl rfl ?_
  exact x_vret C E hf (by decide) (by decide) (dkAt dk_X2_begin 10 rfl)
def f_X2_isWord_L28 (Z : Nat) (M : Mem) (p0 : Nat) : Nat → Int32 → Option (Int32 × Mem)
  | 0, _ => none
  | n + 1, x4 => (if (slen p0) ≤ x4 then some ((1 : Int32), M) else bd (gI M (1) 4) (fun v5 => rdI M 2 1200 (v5 + x4) (fun v6 => rdS p0 x4 (fun v7 => (if v6 = v7 then f_X2_isWord_L28 Z M p0 n (x4 + (1 : Int32)) else some ((0 : Int32), M))))))
def f_X2_isWord (Z : Nat) (M : Mem) (p0 : Nat) : Option (Int32 × Mem) :=
  bd (gI M (1) 3) (fun v1 => (if v1 = (1 : Int32) then bd (gI M (1) 5) (fun v2 => bd (gI M (1) 4) (fun v3 => (if (v2 - v3) = (slen p0) then f_X2_isWord_L28 Z M p0 Z (0 : Int32) else some ((0 : Int32), M)))) else some ((0 : Int32), M)))
set_option maxRecDepth 100000 in
theorem l_X2_isWord_L28 {Γ : WC} {X : MX} (hN : HN Γ) (C : CX Γ X cX2_isWord 3 RX2 (some .boolean) (rmL 6 0 0)) {rM : Int32 × Mem} (E : EndN Γ X (some (.int rM.1)) rM.2 0 0) {Z : Nat} {M : Mem} {p0 : Nat} (h_p0 : p0 < 21) : ∀ (n : Nat) (x4 : Int32), f_X2_isWord_L28 Z M p0 n x4 = some rM → G Γ X M 0 0 [some (.ref (wad Γ 1)), some (.ref (wst Γ p0)), some (.int x4)] [] 28 := by
  intro n
  induction n with
  | zero =>
    intro x4 hf
    have hf0 : (none : Option _) = some rM := hf
    cases hf0
  | succ n ih =>
    intro x4 hf
    rw [f_X2_isWord_L28] at hf
    refine x_iload_n C rfl rfl (dkAt dk_X2_isWord 16 rfl) 29 rfl ?_
    refine x_aload_n C rfl rfl (dkAt dk_X2_isWord 17 rfl) 30 rfl ?_
    refine x_slen C hN.ht h_p0 ln_RX2_50 ⟨by decide, by decide, by decide, by decide⟩ (Nat.le_of_ble_eq_true rfl) (dkAt dk_X2_isWord 18 rfl) 33 rfl ?_
    refine x_icmp_ge C 63 (dkAt dk_X2_isWord 19 rfl) 36 rfl (by decide) hf (fun hf => ?_) (fun hf => ?_)
    · refine x_iconst C (v := (1 : Int32)) (by decide) (dkAt dk_X2_isWord 35 rfl) 64 rfl ?_
      exact x_zret C E (by decide) hf (by decide) (by decide) (dkAt dk_X2_isWord 36 rfl)
    · refine x_aload_n C rfl rfl (dkAt dk_X2_isWord 20 rfl) 37 rfl ?_
      refine x_getS C lk_RX2_9 (hN.sh sh1) (hN.sr sr1_0) (dkAt dk_X2_isWord 21 rfl) 40 rfl ?_
      refine x_aload_n C rfl rfl (dkAt dk_X2_isWord 22 rfl) 41 rfl ?_
      refine x_getI C lk_RX2_34 (hN.sh sh1) (dkAt dk_X2_isWord 23 rfl) 44 rfl hf (fun v5 hf => ?_)
      refine x_iload_n C rfl rfl (dkAt dk_X2_isWord 24 rfl) 45 rfl ?_
      refine x_iadd C (dkAt dk_X2_isWord 25 rfl) 46 rfl ?_
      refine x_bald C (hN.sh sh2) (dkAt dk_X2_isWord 26 rfl) 47 rfl hf (fun v6 hf => ?_)
      refine x_aload_n C rfl rfl (dkAt dk_X2_isWord 27 rfl) 48 rfl ?_
      refine x_iload_n C rfl rfl (dkAt dk_X2_isWord 28 rfl) 49 rfl ?_
      refine x_charAt C hN.ht h_p0 ln_RX2_56 ⟨by decide, by decide, by decide, by decide⟩ (Nat.le_of_ble_eq_true rfl) (dkAt dk_X2_isWord 29 rfl) 52 rfl hf (fun v7 hf => ?_)
      refine x_icmp_eq C 57 (dkAt dk_X2_isWord 30 rfl) 55 rfl (by decide) hf (fun hf => ?_) (fun hf => ?_)
      · refine x_iinc C (v := (x4 + (1 : Int32))) (L1 := [some (.ref (wad Γ 1)), some (.ref (wst Γ p0)), some (.int (x4 + (1 : Int32)))]) (dkAt dk_X2_isWord 33 rfl) 60 rfl rfl rfl (by decide) rfl ?_
        refine x_goto C 28 (dkAt dk_X2_isWord 34 rfl) (by decide) ?_
        exact G.weak (L := [some (.ref (wad Γ 1)), some (.ref (wst Γ p0)), some (.int (x4 + (1 : Int32)))]) ⟨rfl, rfl, rfl, trivial⟩ (ih _ hf)
      · refine x_iconst C (v := (0 : Int32)) (by decide) (dkAt dk_X2_isWord 31 rfl) 56 rfl ?_
        exact x_zret C E (by decide) hf (by decide) (by decide) (dkAt dk_X2_isWord 32 rfl)
set_option maxRecDepth 100000 in
theorem c_X2_isWord {Γ : WC} (hN : HN Γ) {Z : Nat} {M : Mem} {p0 : Nat} {rM : Int32 × Mem} (h_p0 : p0 < 21) (hf : f_X2_isWord Z M p0 = some rM) : Ct Γ yX2_isWord cX2_isWord 3 (some .boolean) (rmL 6 0 0) [.ref (wad Γ 1), .ref (wst Γ p0)] M (some (.int rM.1)) rM.2 := by
  refine mkN hN.1 (own := RX2) rfl (by decide) (Nat.le_of_ble_eq_true rfl) (fun X C E => ?_)
  change G Γ X M 0 0 [some (.ref (wad Γ 1)), some (.ref (wst Γ p0))] [] 0
  unfold f_X2_isWord at hf
  refine x_aload_n C rfl rfl (dkAt dk_X2_isWord 0 rfl) 1 rfl ?_
  refine x_getI C lk_RX2_37 (hN.sh sh1) (dkAt dk_X2_isWord 1 rfl) 4 rfl hf (fun v1 hf => ?_)
  refine x_iconst C (v := (1 : Int32)) (by decide) (dkAt dk_X2_isWord 2 rfl) 5 rfl ?_
  refine x_icmp_ne C 24 (dkAt dk_X2_isWord 3 rfl) 8 rfl (by decide) hf (fun hf => ?_) (fun hf => ?_)
  · refine x_iconst C (v := (0 : Int32)) (by decide) (dkAt dk_X2_isWord 12 rfl) 25 rfl ?_
    exact x_zret C E (by decide) hf (by decide) (by decide) (dkAt dk_X2_isWord 13 rfl)
  · refine x_aload_n C rfl rfl (dkAt dk_X2_isWord 4 rfl) 9 rfl ?_
    refine x_getI C lk_RX2_28 (hN.sh sh1) (dkAt dk_X2_isWord 5 rfl) 12 rfl hf (fun v2 hf => ?_)
    refine x_aload_n C rfl rfl (dkAt dk_X2_isWord 6 rfl) 13 rfl ?_
    refine x_getI C lk_RX2_34 (hN.sh sh1) (dkAt dk_X2_isWord 7 rfl) 16 rfl hf (fun v3 hf => ?_)
    refine x_isub C (dkAt dk_X2_isWord 8 rfl) 17 rfl ?_
    refine x_aload_n C rfl rfl (dkAt dk_X2_isWord 9 rfl) 18 rfl ?_
    refine x_slen C hN.ht h_p0 ln_RX2_50 ⟨by decide, by decide, by decide, by decide⟩ (Nat.le_of_ble_eq_true rfl) (dkAt dk_X2_isWord 10 rfl) 21 rfl ?_
    refine x_icmp_eq C 26 (dkAt dk_X2_isWord 11 rfl) 24 rfl (by decide) hf (fun hf => ?_) (fun hf => ?_)
    · refine x_iconst C (v := (0 : Int32)) (by decide) (dkAt dk_X2_isWord 14 rfl) 27 rfl ?_
      refine x_istore_n C (L1 := [some (.ref (wad Γ 1)), some (.ref (wst Γ p0)), some (.int (0 : Int32))]) (dkAt dk_X2_isWord 15 rfl) 28 rfl rfl (by decide) rfl ?_
      refine G.weak (L := [some (.ref (wad Γ 1)), some (.ref (wst Γ p0)), some (.int (0 : Int32))]) ⟨rfl, rfl, rfl, trivial⟩ ?_
      refine l_X2_isWord_L28 hN C E h_p0 Z _ hf
    · refine x_iconst C (v := (0 : Int32)) (by decide) (dkAt dk_X2_isWord 12 rfl) 25 rfl ?_
      exact x_zret C E (by decide) hf (by decide) (by decide) (dkAt dk_X2_isWord 13 rfl)
def f_X3_forget (Z : Nat) (M : Mem)  : Option (Unit × Mem) :=
  bd (sI M (35) 0 (0 : Int32)) (fun M1 => bd (sI M1 (35) 3 (0 : Int32)) (fun M2 => some ((), M2)))
set_option maxRecDepth 100000 in
theorem c_X3_forget {Γ : WC} (hN : HN Γ) {Z : Nat} {M : Mem}  {rM : Unit × Mem}  (hf : f_X3_forget Z M  = some rM) : Ct Γ yX3_forget cX3_forget 1 none (rmL 0 0 0) [.ref (wad Γ 35)] M none rM.2 := by
  refine mkN hN.1 (own := RX3) rfl (by decide) (Nat.le_of_ble_eq_true rfl) (fun X C E => ?_)
  change G Γ X M 0 0 [some (.ref (wad Γ 35))] [] 0
  unfold f_X3_forget at hf
  refine x_aload_n C rfl rfl (dkAt dk_X3_forget 0 rfl) 1 rfl ?_
  refine x_iconst C (v := (0 : Int32)) (by decide) (dkAt dk_X3_forget 1 rfl) 2 rfl ?_
  refine x_putI C pk_RX3_21 ⟨_, rfl⟩ (hN.sh sh35) (dkAt dk_X3_forget 2 rfl) 5 rfl hf (fun M1 hf => ?_)
  refine x_aload_n C rfl rfl (dkAt dk_X3_forget 3 rfl) 6 rfl ?_
  refine x_iconst C (v := (0 : Int32)) (by decide) (dkAt dk_X3_forget 4 rfl) 7 rfl ?_
  refine x_putI C pk_RX3_25 ⟨_, rfl⟩ (hN.sh sh35) (dkAt dk_X3_forget 5 rfl) 10 rfl hf (fun M2 hf => ?_)
  exact x_vret C E hf (by decide) (by decide) (dkAt dk_X3_forget 6 rfl)
def f_X3_dropOldest_L9 (Z : Nat) (o1 : Nat) (k : Mem → Option (Unit × Mem)) : Nat → Int32 → Mem → Option (Unit × Mem)
  | 0, _, _ => none
  | n + 1, x2, M3 => (if (7 : Int32) ≤ x2 then k M3 else rdR M3 36 7 x2 SH (13, 9) (fun o4 => wrR M3 36 7 (x2 - (1 : Int32)) o4 (fun M5 => f_X3_dropOldest_L9 Z o1 k n (x2 + (1 : Int32)) M5)))
def f_X3_dropOldest (Z : Nat) (M : Mem)  : Option (Unit × Mem) :=
  rdR M 36 7 (0 : Int32) SH (13, 9) (fun o1 => f_X3_dropOldest_L9 Z o1 (fun (M6 : Mem) => wrR M6 36 7 (6 : Int32) o1 (fun M7 => bd (sI M7 (35) 0 (6 : Int32)) (fun M8 => some ((), M8)))) Z (1 : Int32) M)
set_option maxRecDepth 100000 in
theorem l_X3_dropOldest_L9 {Γ : WC} {X : MX} (hN : HN Γ) (C : CX Γ X cX3_dropOldest 3 RX3 none (rmL 0 0 0)) {rM : Unit × Mem} (E : EndN Γ X none rM.2 0 0) {Z : Nat} {o1 : Nat} (h_o1 : SH[o1]? = some (13, 9)) {k : Mem → Option (Unit × Mem)} (hk : ∀  (Mx : Mem), k Mx = some rM → G Γ X Mx 0 0 [some (.ref (wad Γ 35)), some (.ref (wad Γ o1))] [] 35) : ∀ (n : Nat) (x2 : Int32) (M3 : Mem), f_X3_dropOldest_L9 Z o1 k n x2 M3 = some rM → G Γ X M3 0 0 [some (.ref (wad Γ 35)), some (.ref (wad Γ o1)), some (.int x2)] [] 9 := by
  intro n
  induction n with
  | zero =>
    intro x2 M3 hf
    have hf0 : (none : Option _) = some rM := hf
    cases hf0
  | succ n ih =>
    intro x2 M3 hf
    rw [f_X3_dropOldest_L9] at hf
    refine x_iload_n C rfl rfl (dkAt dk_X3_dropOldest 7 rfl) 10 rfl ?_
    refine x_bipush C (v := (7 : Int32)) (by decide) (dkAt dk_X3_dropOldest 8 rfl) 12 rfl ?_
    refine x_icmp_ge C 35 (dkAt dk_X3_dropOldest 9 rfl) 15 rfl (by decide) hf (fun hf => ?_) (fun hf => ?_)
    · exact G.weak (L := [some (.ref (wad Γ 35)), some (.ref (wad Γ o1))]) ⟨rfl, rfl, trivial⟩ (hk _ hf)
    · refine x_aload_n C rfl rfl (dkAt dk_X3_dropOldest 10 rfl) 16 rfl ?_
      refine x_getS C lk_RX3_11 (hN.sh sh35) (hN.sr sr35_1) (dkAt dk_X3_dropOldest 11 rfl) 19 rfl ?_
      refine x_iload_n C rfl rfl (dkAt dk_X3_dropOldest 12 rfl) 20 rfl ?_
      refine x_iconst C (v := (1 : Int32)) (by decide) (dkAt dk_X3_dropOldest 13 rfl) 21 rfl ?_
      refine x_isub C (dkAt dk_X3_dropOldest 14 rfl) 22 rfl ?_
      refine x_aload_n C rfl rfl (dkAt dk_X3_dropOldest 15 rfl) 23 rfl ?_
      refine x_getS C lk_RX3_11 (hN.sh sh35) (hN.sr sr35_1) (dkAt dk_X3_dropOldest 16 rfl) 26 rfl ?_
      refine x_iload_n C rfl rfl (dkAt dk_X3_dropOldest 17 rfl) 27 rfl ?_
      refine x_aald C (by decide) (hN.sh sh36) (dkAt dk_X3_dropOldest 18 rfl) 28 rfl hf (fun o4 h_o4 hf => ?_)
      refine x_aast C (by decide) (hN.kr (by decide) (shlt h_o4) rfl) (hN.sh sh36) (hN.sh h_o4) (dkAt dk_X3_dropOldest 19 rfl) 29 rfl hf (fun M5 hf => ?_)
      refine x_iinc C (v := (x2 + (1 : Int32))) (L1 := [some (.ref (wad Γ 35)), some (.ref (wad Γ o1)), some (.int (x2 + (1 : Int32)))]) (dkAt dk_X3_dropOldest 20 rfl) 32 rfl rfl rfl (by decide) rfl ?_
      refine x_goto C 9 (dkAt dk_X3_dropOldest 21 rfl) (by decide) ?_
      exact G.weak (L := [some (.ref (wad Γ 35)), some (.ref (wad Γ o1)), some (.int (x2 + (1 : Int32)))]) ⟨rfl, rfl, rfl, trivial⟩ (ih _ _ hf)
set_option maxRecDepth 100000 in
theorem c_X3_dropOldest {Γ : WC} (hN : HN Γ) {Z : Nat} {M : Mem}  {rM : Unit × Mem}  (hf : f_X3_dropOldest Z M  = some rM) : Ct Γ yX3_dropOldest cX3_dropOldest 3 none (rmL 0 0 0) [.ref (wad Γ 35)] M none rM.2 := by
  refine mkN hN.1 (own := RX3) rfl (by decide) (Nat.le_of_ble_eq_true rfl) (fun X C E => ?_)
  change G Γ X M 0 0 [some (.ref (wad Γ 35))] [] 0
  unfold f_X3_dropOldest at hf
  refine x_aload_n C rfl rfl (dkAt dk_X3_dropOldest 0 rfl) 1 rfl ?_
  refine x_getS C lk_RX3_11 (hN.sh sh35) (hN.sr sr35_1) (dkAt dk_X3_dropOldest 1 rfl) 4 rfl ?_
  refine x_iconst C (v := (0 : Int32)) (by decide) (dkAt dk_X3_dropOldest 2 rfl) 5 rfl ?_
  refine x_aald C (by decide) (hN.sh sh36) (dkAt dk_X3_dropOldest 3 rfl) 6 rfl hf (fun o1 h_o1 hf => ?_)
  refine x_astore_n C (L1 := [some (.ref (wad Γ 35)), some (.ref (wad Γ o1))]) (dkAt dk_X3_dropOldest 4 rfl) 7 rfl rfl (by decide) rfl ?_
  refine x_iconst C (v := (1 : Int32)) (by decide) (dkAt dk_X3_dropOldest 5 rfl) 8 rfl ?_
  refine x_istore_n C (L1 := [some (.ref (wad Γ 35)), some (.ref (wad Γ o1)), some (.int (1 : Int32))]) (dkAt dk_X3_dropOldest 6 rfl) 9 rfl rfl (by decide) rfl ?_
  refine G.weak (L := [some (.ref (wad Γ 35)), some (.ref (wad Γ o1)), some (.int (1 : Int32))]) ⟨rfl, rfl, rfl, trivial⟩ ?_
  refine l_X3_dropOldest_L9 hN C E h_o1 ?_ Z _ _ hf
  intro M6 hf
  refine x_aload_n C rfl rfl (dkAt dk_X3_dropOldest 22 rfl) 36 rfl ?_
  refine x_getS C lk_RX3_11 (hN.sh sh35) (hN.sr sr35_1) (dkAt dk_X3_dropOldest 23 rfl) 39 rfl ?_
  refine x_bipush C (v := (6 : Int32)) (by decide) (dkAt dk_X3_dropOldest 24 rfl) 41 rfl ?_
  refine x_aload_n C rfl rfl (dkAt dk_X3_dropOldest 25 rfl) 42 rfl ?_
  refine x_aast C (by decide) (hN.kr (by decide) (shlt h_o1) rfl) (hN.sh sh36) (hN.sh h_o1) (dkAt dk_X3_dropOldest 26 rfl) 43 rfl hf (fun M7 hf => ?_)
  refine x_aload_n C rfl rfl (dkAt dk_X3_dropOldest 27 rfl) 44 rfl ?_
  refine x_bipush C (v := (6 : Int32)) (by decide) (dkAt dk_X3_dropOldest 28 rfl) 46 rfl ?_
  refine x_putI C pk_RX3_21 ⟨_, rfl⟩ (hN.sh sh35) (dkAt dk_X3_dropOldest 29 rfl) 49 rfl hf (fun M8 hf => ?_)
  exact x_vret C E hf (by decide) (by decide) (dkAt dk_X3_dropOldest 30 rfl)
def f_X7_copyFrom (Z : Nat) (M : Mem) (o : Nat) (o2 : Nat) : Option (Unit × Mem) :=
  cl (f_X11_copyRow Z M (o2 + 1) 18 (o + 1) 18) (fun v1 M2 => cl (f_X11_copyRow Z M2 (o2 + 2) 6 (o + 2) 6) (fun v3 M4 => cl (f_X11_copyRow Z M4 (o2 + 3) 3 (o + 3) 3) (fun v5 M6 => bd (gI M6 o2 3) (fun v7 => bd (sI M6 o 3 v7) (fun M8 => bd (gI M8 o2 4) (fun v9 => bd (sI M8 o 4 v9) (fun M10 => bd (gI M10 o2 5) (fun v11 => bd (sI M10 o 5 v11) (fun M12 => bd (gI M12 o2 6) (fun v13 => bd (sI M12 o 6 v13) (fun M14 => cl (f_X11_copyRow Z M14 (o2 + 4) 6 (o + 4) 6) (fun v15 M16 => cl (f_X11_copyRow Z M16 (o2 + 5) 5 (o + 5) 5) (fun v17 M18 => some ((), M18))))))))))))))
set_option maxRecDepth 100000 in
theorem c_X7_copyFrom {Γ : WC} (hN : HN Γ) {Z : Nat} {M : Mem} {o : Nat} {o2 : Nat} {rM : Unit × Mem} (h_o : SH[o]? = some (13, 9)) (h_o2 : SH[o2]? = some (13, 9)) (hf : f_X7_copyFrom Z M o o2 = some rM) : Ct Γ yX7_copyFrom cX7_copyFrom 2 none (rmL 2 0 0) [.ref (wad Γ o), .ref (wad Γ o2)] M none rM.2 := by
  refine mkN hN.1 (own := RX7) rfl (by decide) (Nat.le_of_ble_eq_true rfl) (fun X C E => ?_)
  change G Γ X M 0 0 [some (.ref (wad Γ o)), some (.ref (wad Γ o2))] [] 0
  unfold f_X7_copyFrom at hf
  refine x_aload_n C rfl rfl (dkAt dk_X7_copyFrom 0 rfl) 1 rfl ?_
  refine x_getS C lk_RX7_9 (hN.sh h_o2) (hN.sr (sr_7_0 h_o2)) (dkAt dk_X7_copyFrom 1 rfl) 4 rfl ?_
  refine x_aload_n C rfl rfl (dkAt dk_X7_copyFrom 2 rfl) 5 rfl ?_
  refine x_getS C lk_RX7_9 (hN.sh h_o) (hN.sr (sr_7_0 h_o)) (dkAt dk_X7_copyFrom 3 rfl) 8 rfl ?_
  obtain ⟨v1, M2, h23, hf⟩ := cl_inv hf
  refine x_cNv C (c_X11_copyRow hN (sh_7_0 h_o2) (sh_7_0 h_o) h23) mw_X11_copyRow ln_RX7_50 ms_X11_copyRow (ro_of (by decide) (by decide) (by decide) (by decide)) rfl rfl (Nat.le_of_ble_eq_true rfl) (dkAt dk_X7_copyFrom 4 rfl) 11 rfl 0 0 rfl rfl ?_
  refine x_aload_n C rfl rfl (dkAt dk_X7_copyFrom 5 rfl) 12 rfl ?_
  refine x_getS C lk_RX7_15 (hN.sh h_o2) (hN.sr (sr_7_1 h_o2)) (dkAt dk_X7_copyFrom 6 rfl) 15 rfl ?_
  refine x_aload_n C rfl rfl (dkAt dk_X7_copyFrom 7 rfl) 16 rfl ?_
  refine x_getS C lk_RX7_15 (hN.sh h_o) (hN.sr (sr_7_1 h_o)) (dkAt dk_X7_copyFrom 8 rfl) 19 rfl ?_
  obtain ⟨v3, M4, h22, hf⟩ := cl_inv hf
  refine x_cNv C (c_X11_copyRow hN (sh_7_1 h_o2) (sh_7_1 h_o) h22) mw_X11_copyRow ln_RX7_50 ms_X11_copyRow (ro_of (by decide) (by decide) (by decide) (by decide)) rfl rfl (Nat.le_of_ble_eq_true rfl) (dkAt dk_X7_copyFrom 9 rfl) 22 rfl 0 0 rfl rfl ?_
  refine x_aload_n C rfl rfl (dkAt dk_X7_copyFrom 10 rfl) 23 rfl ?_
  refine x_getS C lk_RX7_18 (hN.sh h_o2) (hN.sr (sr_7_2 h_o2)) (dkAt dk_X7_copyFrom 11 rfl) 26 rfl ?_
  refine x_aload_n C rfl rfl (dkAt dk_X7_copyFrom 12 rfl) 27 rfl ?_
  refine x_getS C lk_RX7_18 (hN.sh h_o) (hN.sr (sr_7_2 h_o)) (dkAt dk_X7_copyFrom 13 rfl) 30 rfl ?_
  obtain ⟨v5, M6, h21, hf⟩ := cl_inv hf
  refine x_cNv C (c_X11_copyRow hN (sh_7_2 h_o2) (sh_7_2 h_o) h21) mw_X11_copyRow ln_RX7_50 ms_X11_copyRow (ro_of (by decide) (by decide) (by decide) (by decide)) rfl rfl (Nat.le_of_ble_eq_true rfl) (dkAt dk_X7_copyFrom 14 rfl) 33 rfl 0 0 rfl rfl ?_
  refine x_aload_n C rfl rfl (dkAt dk_X7_copyFrom 15 rfl) 34 rfl ?_
  refine x_aload_n C rfl rfl (dkAt dk_X7_copyFrom 16 rfl) 35 rfl ?_
  refine x_getI C lk_RX7_41 (hN.sh h_o2) (dkAt dk_X7_copyFrom 17 rfl) 38 rfl hf (fun v7 hf => ?_)
  refine x_putI C pk_RX7_41 ⟨_, rfl⟩ (hN.sh h_o) (dkAt dk_X7_copyFrom 18 rfl) 41 rfl hf (fun M8 hf => ?_)
  refine x_aload_n C rfl rfl (dkAt dk_X7_copyFrom 19 rfl) 42 rfl ?_
  refine x_aload_n C rfl rfl (dkAt dk_X7_copyFrom 20 rfl) 43 rfl ?_
  refine x_getI C lk_RX7_44 (hN.sh h_o2) (dkAt dk_X7_copyFrom 21 rfl) 46 rfl hf (fun v9 hf => ?_)
  refine x_putI C pk_RX7_44 ⟨_, rfl⟩ (hN.sh h_o) (dkAt dk_X7_copyFrom 22 rfl) 49 rfl hf (fun M10 hf => ?_)
  refine x_aload_n C rfl rfl (dkAt dk_X7_copyFrom 23 rfl) 50 rfl ?_
  refine x_aload_n C rfl rfl (dkAt dk_X7_copyFrom 24 rfl) 51 rfl ?_
  refine x_getI C lk_RX7_47 (hN.sh h_o2) (dkAt dk_X7_copyFrom 25 rfl) 54 rfl hf (fun v11 hf => ?_)
  refine x_putI C pk_RX7_47 ⟨_, rfl⟩ (hN.sh h_o) (dkAt dk_X7_copyFrom 26 rfl) 57 rfl hf (fun M12 hf => ?_)
  refine x_aload_n C rfl rfl (dkAt dk_X7_copyFrom 27 rfl) 58 rfl ?_
  refine x_aload_n C rfl rfl (dkAt dk_X7_copyFrom 28 rfl) 59 rfl ?_
  refine x_getI C lk_RX7_21 (hN.sh h_o2) (dkAt dk_X7_copyFrom 29 rfl) 62 rfl hf (fun v13 hf => ?_)
  refine x_putI C pk_RX7_21 ⟨_, rfl⟩ (hN.sh h_o) (dkAt dk_X7_copyFrom 30 rfl) 65 rfl hf (fun M14 hf => ?_)
  refine x_aload_n C rfl rfl (dkAt dk_X7_copyFrom 31 rfl) 66 rfl ?_
  refine x_getS C lk_RX7_25 (hN.sh h_o2) (hN.sr (sr_7_7 h_o2)) (dkAt dk_X7_copyFrom 32 rfl) 69 rfl ?_
  refine x_aload_n C rfl rfl (dkAt dk_X7_copyFrom 33 rfl) 70 rfl ?_
  refine x_getS C lk_RX7_25 (hN.sh h_o) (hN.sr (sr_7_7 h_o)) (dkAt dk_X7_copyFrom 34 rfl) 73 rfl ?_
  obtain ⟨v15, M16, h20, hf⟩ := cl_inv hf
  refine x_cNv C (c_X11_copyRow hN (sh_7_7 h_o2) (sh_7_7 h_o) h20) mw_X11_copyRow ln_RX7_50 ms_X11_copyRow (ro_of (by decide) (by decide) (by decide) (by decide)) rfl rfl (Nat.le_of_ble_eq_true rfl) (dkAt dk_X7_copyFrom 35 rfl) 76 rfl 0 0 rfl rfl ?_
  refine x_aload_n C rfl rfl (dkAt dk_X7_copyFrom 36 rfl) 77 rfl ?_
  refine x_getS C lk_RX7_28 (hN.sh h_o2) (hN.sr (sr_7_8 h_o2)) (dkAt dk_X7_copyFrom 37 rfl) 80 rfl ?_
  refine x_aload_n C rfl rfl (dkAt dk_X7_copyFrom 38 rfl) 81 rfl ?_
  refine x_getS C lk_RX7_28 (hN.sh h_o) (hN.sr (sr_7_8 h_o)) (dkAt dk_X7_copyFrom 39 rfl) 84 rfl ?_
  obtain ⟨v17, M18, h19, hf⟩ := cl_inv hf
  refine x_cNv C (c_X11_copyRow hN (sh_7_8 h_o2) (sh_7_8 h_o) h19) mw_X11_copyRow ln_RX7_50 ms_X11_copyRow (ro_of (by decide) (by decide) (by decide) (by decide)) rfl rfl (Nat.le_of_ble_eq_true rfl) (dkAt dk_X7_copyFrom 40 rfl) 87 rfl 0 0 rfl rfl ?_
  exact x_vret C E hf (by decide) (by decide) (dkAt dk_X7_copyFrom 41 rfl)
def f_X3_keep (Z : Nat) (M : Mem)  : Option (Unit × Mem) :=
  bd (gI M (35) 0) (fun v1 => jn (fun (t2 : Mem) => bd (gI t2 (35) 0) (fun v3 => rdR t2 36 7 v3 SH (13, 9) (fun o4 => cl (f_X7_copyFrom Z t2 o4 (10)) (fun v5 M6 => bd (gI M6 (35) 0) (fun v7 => bd (sI M6 (35) 0 (v7 + (1 : Int32))) (fun M8 => some ((), M8))))))) (fun j10 => (if v1 = (7 : Int32) then cl (f_X3_dropOldest Z M) (fun v11 M12 => j10 M12) else j10 M)))
set_option maxRecDepth 100000 in
theorem c_X3_keep {Γ : WC} (hN : HN Γ) {Z : Nat} {M : Mem}  {rM : Unit × Mem}  (hf : f_X3_keep Z M  = some rM) : Ct Γ yX3_keep cX3_keep 2 none (rmL 3 0 0) [.ref (wad Γ 35), .ref (wad Γ 10)] M none rM.2 := by
  refine mkN hN.1 (own := RX3) rfl (by decide) (Nat.le_of_ble_eq_true rfl) (fun X C E => ?_)
  change G Γ X M 0 0 [some (.ref (wad Γ 35)), some (.ref (wad Γ 10))] [] 0
  unfold f_X3_keep at hf
  refine x_aload_n C rfl rfl (dkAt dk_X3_keep 0 rfl) 1 rfl ?_
  refine x_getI C lk_RX3_21 (hN.sh sh35) (dkAt dk_X3_keep 1 rfl) 4 rfl hf (fun v1 hf => ?_)
  refine x_bipush C (v := (7 : Int32)) (by decide) (dkAt dk_X3_keep 2 rfl) 6 rfl ?_
  refine x_join hf (fun t2 => G Γ X t2 0 0 [some (.ref (wad Γ 35)), some (.ref (wad Γ 10))] [] 13) (fun t2 hf => ?_) (fun j10 hj10 hf => ?_)
  · refine x_aload_n C rfl rfl (dkAt dk_X3_keep 6 rfl) 14 rfl ?_
    refine x_getS C lk_RX3_11 (hN.sh sh35) (hN.sr sr35_1) (dkAt dk_X3_keep 7 rfl) 17 rfl ?_
    refine x_aload_n C rfl rfl (dkAt dk_X3_keep 8 rfl) 18 rfl ?_
    refine x_getI C lk_RX3_21 (hN.sh sh35) (dkAt dk_X3_keep 9 rfl) 21 rfl hf (fun v3 hf => ?_)
    refine x_aald C (by decide) (hN.sh sh36) (dkAt dk_X3_keep 10 rfl) 22 rfl hf (fun o4 h_o4 hf => ?_)
    refine x_aload_n C rfl rfl (dkAt dk_X3_keep 11 rfl) 23 rfl ?_
    obtain ⟨v5, M6, h9, hf⟩ := cl_inv hf
    refine x_cVv C (c_X7_copyFrom hN h_o4 sh10 h9) mw_X7_copyFrom ln_RX3_31 mi_X7_copyFrom (hN.rc (ci := 7) h_o4 rc7) (ro_of (by decide) (by decide) (by decide) (by decide)) rfl rfl (Nat.le_of_ble_eq_true rfl) (dkAt dk_X3_keep 12 rfl) 26 rfl 0 0 rfl rfl ?_
    refine x_aload_n C rfl rfl (dkAt dk_X3_keep 13 rfl) 27 rfl ?_
    refine x_dup C rfl (dkAt dk_X3_keep 14 rfl) 28 rfl ?_
    refine x_getI C lk_RX3_21 (hN.sh sh35) (dkAt dk_X3_keep 15 rfl) 31 rfl hf (fun v7 hf => ?_)
    refine x_iconst C (v := (1 : Int32)) (by decide) (dkAt dk_X3_keep 16 rfl) 32 rfl ?_
    refine x_iadd C (dkAt dk_X3_keep 17 rfl) 33 rfl ?_
    refine x_putI C pk_RX3_21 ⟨_, rfl⟩ (hN.sh sh35) (dkAt dk_X3_keep 18 rfl) 36 rfl hf (fun M8 hf => ?_)
    exact x_vret C E hf (by decide) (by decide) (dkAt dk_X3_keep 19 rfl)
  · refine x_icmp_ne C 13 (dkAt dk_X3_keep 3 rfl) 9 rfl (by decide) hf (fun hf => ?_) (fun hf => ?_)
    · exact G.weak (L := [some (.ref (wad Γ 35)), some (.ref (wad Γ 10))]) ⟨rfl, rfl, trivial⟩ (hj10 _ hf)
    · refine x_aload_n C rfl rfl (dkAt dk_X3_keep 4 rfl) 10 rfl ?_
      obtain ⟨v11, M12, h13, hf⟩ := cl_inv hf
      refine x_cVv C (c_X3_dropOldest hN h13) mw_X3_dropOldest ln_RX3_28 mi_X3_dropOldest (hN.rc (ci := 3) sh35 rc3) (ro_of (by decide) (by decide) (by decide) (by decide)) rfl rfl (Nat.le_of_ble_eq_true rfl) (dkAt dk_X3_keep 5 rfl) 13 rfl 0 0 rfl rfl ?_
      exact G.weak (L := [some (.ref (wad Γ 35)), some (.ref (wad Γ 10))]) ⟨rfl, rfl, trivial⟩ (hj10 _ hf)
def f_X3_giveBack (Z : Nat) (M : Mem)  : Option (Unit × Mem) :=
  bd (gI M (35) 0) (fun v1 => (if v1 ≤ 0 then some ((), M) else bd (gI M (35) 0) (fun v2 => bd (sI M (35) 0 (v2 - (1 : Int32))) (fun M3 => bd (gI M3 (35) 0) (fun v4 => rdR M3 36 7 v4 SH (13, 9) (fun o5 => cl (f_X7_copyFrom Z M3 (10) o5) (fun v6 M7 => some ((), M7))))))))
set_option maxRecDepth 100000 in
theorem c_X3_giveBack {Γ : WC} (hN : HN Γ) {Z : Nat} {M : Mem}  {rM : Unit × Mem}  (hf : f_X3_giveBack Z M  = some rM) : Ct Γ yX3_giveBack cX3_giveBack 2 none (rmL 3 0 0) [.ref (wad Γ 35), .ref (wad Γ 10)] M none rM.2 := by
  refine mkN hN.1 (own := RX3) rfl (by decide) (Nat.le_of_ble_eq_true rfl) (fun X C E => ?_)
  change G Γ X M 0 0 [some (.ref (wad Γ 35)), some (.ref (wad Γ 10))] [] 0
  unfold f_X3_giveBack at hf
  refine x_aload_n C rfl rfl (dkAt dk_X3_giveBack 0 rfl) 1 rfl ?_
  refine x_getI C lk_RX3_21 (hN.sh sh35) (dkAt dk_X3_giveBack 1 rfl) 4 rfl hf (fun v1 hf => ?_)
  refine x_if_le C 30 (dkAt dk_X3_giveBack 2 rfl) 7 rfl (by decide) hf (fun hf => ?_) (fun hf => ?_)
  · exact x_vret C E hf (by decide) (by decide) (dkAt dk_X3_giveBack 16 rfl)
  · refine x_aload_n C rfl rfl (dkAt dk_X3_giveBack 3 rfl) 8 rfl ?_
    refine x_dup C rfl (dkAt dk_X3_giveBack 4 rfl) 9 rfl ?_
    refine x_getI C lk_RX3_21 (hN.sh sh35) (dkAt dk_X3_giveBack 5 rfl) 12 rfl hf (fun v2 hf => ?_)
    refine x_iconst C (v := (1 : Int32)) (by decide) (dkAt dk_X3_giveBack 6 rfl) 13 rfl ?_
    refine x_isub C (dkAt dk_X3_giveBack 7 rfl) 14 rfl ?_
    refine x_putI C pk_RX3_21 ⟨_, rfl⟩ (hN.sh sh35) (dkAt dk_X3_giveBack 8 rfl) 17 rfl hf (fun M3 hf => ?_)
    refine x_aload_n C rfl rfl (dkAt dk_X3_giveBack 9 rfl) 18 rfl ?_
    refine x_aload_n C rfl rfl (dkAt dk_X3_giveBack 10 rfl) 19 rfl ?_
    refine x_getS C lk_RX3_11 (hN.sh sh35) (hN.sr sr35_1) (dkAt dk_X3_giveBack 11 rfl) 22 rfl ?_
    refine x_aload_n C rfl rfl (dkAt dk_X3_giveBack 12 rfl) 23 rfl ?_
    refine x_getI C lk_RX3_21 (hN.sh sh35) (dkAt dk_X3_giveBack 13 rfl) 26 rfl hf (fun v4 hf => ?_)
    refine x_aald C (by decide) (hN.sh sh36) (dkAt dk_X3_giveBack 14 rfl) 27 rfl hf (fun o5 h_o5 hf => ?_)
    obtain ⟨v6, M7, h8, hf⟩ := cl_inv hf
    refine x_cVv C (c_X7_copyFrom hN sh10 h_o5 h8) mw_X7_copyFrom ln_RX3_31 mi_X7_copyFrom (hN.rc (ci := 7) sh10 rc7) (ro_of (by decide) (by decide) (by decide) (by decide)) rfl rfl (Nat.le_of_ble_eq_true rfl) (dkAt dk_X3_giveBack 15 rfl) 30 rfl 0 0 rfl rfl ?_
    exact x_vret C E hf (by decide) (by decide) (dkAt dk_X3_giveBack 16 rfl)
def f_X3_isFull (Z : Nat) (M : Mem) (p0 : Int32) : Option (Int32 × Mem) :=
  bd (gI M (35) 3) (fun v1 => (if ((v1 >>> (p0 &&& 31)) &&& (1 : Int32)) = (1 : Int32) then some ((1 : Int32), M) else some ((0 : Int32), M)))
set_option maxRecDepth 100000 in
theorem c_X3_isFull {Γ : WC} (hN : HN Γ) {Z : Nat} {M : Mem} {p0 : Int32} {rM : Int32 × Mem}  (hf : f_X3_isFull Z M p0 = some rM) : Ct Γ yX3_isFull cX3_isFull 2 (some .boolean) (rmL 0 0 0) [.ref (wad Γ 35), .int p0] M (some (.int rM.1)) rM.2 := by
  refine mkN hN.1 (own := RX3) rfl (by decide) (Nat.le_of_ble_eq_true rfl) (fun X C E => ?_)
  change G Γ X M 0 0 [some (.ref (wad Γ 35)), some (.int p0)] [] 0
  unfold f_X3_isFull at hf
  refine x_aload_n C rfl rfl (dkAt dk_X3_isFull 0 rfl) 1 rfl ?_
  refine x_getI C lk_RX3_25 (hN.sh sh35) (dkAt dk_X3_isFull 1 rfl) 4 rfl hf (fun v1 hf => ?_)
  refine x_iload_n C rfl rfl (dkAt dk_X3_isFull 2 rfl) 5 rfl ?_
  refine x_ishr C (dkAt dk_X3_isFull 3 rfl) 6 rfl ?_
  refine x_iconst C (v := (1 : Int32)) (by decide) (dkAt dk_X3_isFull 4 rfl) 7 rfl ?_
  refine x_iand C (dkAt dk_X3_isFull 5 rfl) 8 rfl ?_
  refine x_iconst C (v := (1 : Int32)) (by decide) (dkAt dk_X3_isFull 6 rfl) 9 rfl ?_
  refine x_icmp_ne C 16 (dkAt dk_X3_isFull 7 rfl) 12 rfl (by decide) hf (fun hf => ?_) (fun hf => ?_)
  · refine x_iconst C (v := (0 : Int32)) (by decide) (dkAt dk_X3_isFull 10 rfl) 17 rfl ?_
    exact x_zret C E (by decide) hf (by decide) (by decide) (dkAt dk_X3_isFull 11 rfl)
  · refine x_iconst C (v := (1 : Int32)) (by decide) (dkAt dk_X3_isFull 8 rfl) 13 rfl ?_
    refine x_goto C 17 (dkAt dk_X3_isFull 9 rfl) (by decide) ?_
    exact x_zret C E (by decide) hf (by decide) (by decide) (dkAt dk_X3_isFull 11 rfl)
def f_X3_put (Z : Nat) (M : Mem) (p0 : Int32) : Option (Unit × Mem) :=
  rdR M 37 2 p0 SH (13, 9) (fun o1 => cl (f_X7_copyFrom Z M o1 (10)) (fun v2 M3 => bd (gI M3 (35) 3) (fun v4 => bd (sI M3 (35) 3 (v4 ||| ((1 : Int32) <<< (p0 &&& 31)))) (fun M5 => some ((), M5)))))
set_option maxRecDepth 100000 in
theorem c_X3_put {Γ : WC} (hN : HN Γ) {Z : Nat} {M : Mem} {p0 : Int32} {rM : Unit × Mem}  (hf : f_X3_put Z M p0 = some rM) : Ct Γ yX3_put cX3_put 3 none (rmL 3 0 0) [.ref (wad Γ 35), .int p0, .ref (wad Γ 10)] M none rM.2 := by
  refine mkN hN.1 (own := RX3) rfl (by decide) (Nat.le_of_ble_eq_true rfl) (fun X C E => ?_)
  change G Γ X M 0 0 [some (.ref (wad Γ 35)), some (.int p0), some (.ref (wad Γ 10))] [] 0
  unfold f_X3_put at hf
  refine x_aload_n C rfl rfl (dkAt dk_X3_put 0 rfl) 1 rfl ?_
  refine x_getS C lk_RX3_17 (hN.sh sh35) (hN.sr sr35_2) (dkAt dk_X3_put 1 rfl) 4 rfl ?_
  refine x_iload_n C rfl rfl (dkAt dk_X3_put 2 rfl) 5 rfl ?_
  refine x_aald C (by decide) (hN.sh sh37) (dkAt dk_X3_put 3 rfl) 6 rfl hf (fun o1 h_o1 hf => ?_)
  refine x_aload_n C rfl rfl (dkAt dk_X3_put 4 rfl) 7 rfl ?_
  obtain ⟨v2, M3, h6, hf⟩ := cl_inv hf
  refine x_cVv C (c_X7_copyFrom hN h_o1 sh10 h6) mw_X7_copyFrom ln_RX3_31 mi_X7_copyFrom (hN.rc (ci := 7) h_o1 rc7) (ro_of (by decide) (by decide) (by decide) (by decide)) rfl rfl (Nat.le_of_ble_eq_true rfl) (dkAt dk_X3_put 5 rfl) 10 rfl 0 0 rfl rfl ?_
  refine x_aload_n C rfl rfl (dkAt dk_X3_put 6 rfl) 11 rfl ?_
  refine x_dup C rfl (dkAt dk_X3_put 7 rfl) 12 rfl ?_
  refine x_getI C lk_RX3_25 (hN.sh sh35) (dkAt dk_X3_put 8 rfl) 15 rfl hf (fun v4 hf => ?_)
  refine x_iconst C (v := (1 : Int32)) (by decide) (dkAt dk_X3_put 9 rfl) 16 rfl ?_
  refine x_iload_n C rfl rfl (dkAt dk_X3_put 10 rfl) 17 rfl ?_
  refine x_ishl C (dkAt dk_X3_put 11 rfl) 18 rfl ?_
  refine x_ior C (dkAt dk_X3_put 12 rfl) 19 rfl ?_
  refine x_putI C pk_RX3_25 ⟨_, rfl⟩ (hN.sh sh35) (dkAt dk_X3_put 13 rfl) 22 rfl hf (fun M5 hf => ?_)
  exact x_vret C E hf (by decide) (by decide) (dkAt dk_X3_put 14 rfl)
def f_X3_take (Z : Nat) (M : Mem) (p0 : Int32) : Option (Unit × Mem) :=
  rdR M 37 2 p0 SH (13, 9) (fun o1 => cl (f_X7_copyFrom Z M (10) o1) (fun v2 M3 => bd (sI M3 (35) 0 (0 : Int32)) (fun M4 => some ((), M4))))
set_option maxRecDepth 100000 in
theorem c_X3_take {Γ : WC} (hN : HN Γ) {Z : Nat} {M : Mem} {p0 : Int32} {rM : Unit × Mem}  (hf : f_X3_take Z M p0 = some rM) : Ct Γ yX3_take cX3_take 3 none (rmL 3 0 0) [.ref (wad Γ 35), .int p0, .ref (wad Γ 10)] M none rM.2 := by
  refine mkN hN.1 (own := RX3) rfl (by decide) (Nat.le_of_ble_eq_true rfl) (fun X C E => ?_)
  change G Γ X M 0 0 [some (.ref (wad Γ 35)), some (.int p0), some (.ref (wad Γ 10))] [] 0
  unfold f_X3_take at hf
  refine x_aload_n C rfl rfl (dkAt dk_X3_take 0 rfl) 1 rfl ?_
  refine x_aload_n C rfl rfl (dkAt dk_X3_take 1 rfl) 2 rfl ?_
  refine x_getS C lk_RX3_17 (hN.sh sh35) (hN.sr sr35_2) (dkAt dk_X3_take 2 rfl) 5 rfl ?_
  refine x_iload_n C rfl rfl (dkAt dk_X3_take 3 rfl) 6 rfl ?_
  refine x_aald C (by decide) (hN.sh sh37) (dkAt dk_X3_take 4 rfl) 7 rfl hf (fun o1 h_o1 hf => ?_)
  obtain ⟨v2, M3, h5, hf⟩ := cl_inv hf
  refine x_cVv C (c_X7_copyFrom hN sh10 h_o1 h5) mw_X7_copyFrom ln_RX3_31 mi_X7_copyFrom (hN.rc (ci := 7) sh10 rc7) (ro_of (by decide) (by decide) (by decide) (by decide)) rfl rfl (Nat.le_of_ble_eq_true rfl) (dkAt dk_X3_take 5 rfl) 10 rfl 0 0 rfl rfl ?_
  refine x_aload_n C rfl rfl (dkAt dk_X3_take 6 rfl) 11 rfl ?_
  refine x_iconst C (v := (0 : Int32)) (by decide) (dkAt dk_X3_take 7 rfl) 12 rfl ?_
  refine x_putI C pk_RX3_21 ⟨_, rfl⟩ (hN.sh sh35) (dkAt dk_X3_take 8 rfl) 15 rfl hf (fun M4 hf => ?_)
  exact x_vret C E hf (by decide) (by decide) (dkAt dk_X3_take 9 rfl)
def f_X11_setWeights (Z : Nat) (M : Mem) (w : Nat) (p1 : Int32) (p2 : Int32) (p3 : Int32) (p4 : Int32) : Option (Unit × Mem) :=
  cl (f_X11_rowOf Z M p1 (0 : Int32)) (fun v1 M2 => wrI M2 w 18 v1 p2 (fun M3 => cl (f_X11_rowOf Z M3 p1 (1 : Int32)) (fun v4 M5 => wrI M5 w 18 v4 p3 (fun M6 => cl (f_X11_rowOf Z M6 p1 (2 : Int32)) (fun v7 M8 => wrI M8 w 18 v7 p4 (fun M9 => some ((), M9)))))))
set_option maxRecDepth 100000 in
theorem c_X11_setWeights {Γ : WC} (hN : HN Γ) {Z : Nat} {M : Mem} {w : Nat} {p1 : Int32} {p2 : Int32} {p3 : Int32} {p4 : Int32} {rM : Unit × Mem} (h_w : SH[w]? = some (0, 18)) (hf : f_X11_setWeights Z M w p1 p2 p3 p4 = some rM) : Ct Γ yX11_setWeights cX11_setWeights 5 none (rmL 1 0 0) [.ref (wad Γ w), .int p1, .int p2, .int p3, .int p4] M none rM.2 := by
  refine mkN hN.1 (own := RX11) rfl (by decide) (Nat.le_of_ble_eq_true rfl) (fun X C E => ?_)
  change G Γ X M 0 0 [some (.ref (wad Γ w)), some (.int p1), some (.int p2), some (.int p3), some (.int p4)] [] 0
  unfold f_X11_setWeights at hf
  refine x_aload_n C rfl rfl (dkAt dk_X11_setWeights 0 rfl) 1 rfl ?_
  refine x_iload_n C rfl rfl (dkAt dk_X11_setWeights 1 rfl) 2 rfl ?_
  refine x_iconst C (v := (0 : Int32)) (by decide) (dkAt dk_X11_setWeights 2 rfl) 3 rfl ?_
  obtain ⟨v1, M2, h12, hf⟩ := cl_inv hf
  refine x_cSi C (c_X11_rowOf hN h12) mw_X11_rowOf ln_RX11_179 ms_X11_rowOf (ro_of (by decide) (by decide) (by decide) (by decide)) rfl rfl (Nat.le_of_ble_eq_true rfl) (dkAt dk_X11_setWeights 3 rfl) 6 rfl 0 0 rfl rfl ?_
  refine x_iload_n C rfl rfl (dkAt dk_X11_setWeights 4 rfl) 7 rfl ?_
  refine x_iast C (hN.sh h_w) (dkAt dk_X11_setWeights 5 rfl) 8 rfl hf (fun M3 hf => ?_)
  refine x_aload_n C rfl rfl (dkAt dk_X11_setWeights 6 rfl) 9 rfl ?_
  refine x_iload_n C rfl rfl (dkAt dk_X11_setWeights 7 rfl) 10 rfl ?_
  refine x_iconst C (v := (1 : Int32)) (by decide) (dkAt dk_X11_setWeights 8 rfl) 11 rfl ?_
  obtain ⟨v4, M5, h11, hf⟩ := cl_inv hf
  refine x_cSi C (c_X11_rowOf hN h11) mw_X11_rowOf ln_RX11_179 ms_X11_rowOf (ro_of (by decide) (by decide) (by decide) (by decide)) rfl rfl (Nat.le_of_ble_eq_true rfl) (dkAt dk_X11_setWeights 9 rfl) 14 rfl 0 0 rfl rfl ?_
  refine x_iload_n C rfl rfl (dkAt dk_X11_setWeights 10 rfl) 15 rfl ?_
  refine x_iast C (hN.sh h_w) (dkAt dk_X11_setWeights 11 rfl) 16 rfl hf (fun M6 hf => ?_)
  refine x_aload_n C rfl rfl (dkAt dk_X11_setWeights 12 rfl) 17 rfl ?_
  refine x_iload_n C rfl rfl (dkAt dk_X11_setWeights 13 rfl) 18 rfl ?_
  refine x_iconst C (v := (2 : Int32)) (by decide) (dkAt dk_X11_setWeights 14 rfl) 19 rfl ?_
  obtain ⟨v7, M8, h10, hf⟩ := cl_inv hf
  refine x_cSi C (c_X11_rowOf hN h10) mw_X11_rowOf ln_RX11_179 ms_X11_rowOf (ro_of (by decide) (by decide) (by decide) (by decide)) rfl rfl (Nat.le_of_ble_eq_true rfl) (dkAt dk_X11_setWeights 15 rfl) 22 rfl 0 0 rfl rfl ?_
  refine x_iload C rfl (dkAt dk_X11_setWeights 16 rfl) 24 rfl ?_
  refine x_iast C (hN.sh h_w) (dkAt dk_X11_setWeights 17 rfl) 25 rfl hf (fun M9 hf => ?_)
  exact x_vret C E hf (by decide) (by decide) (dkAt dk_X11_setWeights 18 rfl)
def f_X7_clear_L2 (Z : Nat) (o : Nat) (k : Mem → Option (Unit × Mem)) : Nat → Int32 → Mem → Option (Unit × Mem)
  | 0, _, _ => none
  | n + 1, x1, M2 => (if (6 : Int32) ≤ x1 then k M2 else cl (f_X11_setWeights Z M2 (o + 1) x1 (10 : Int32) (0 : Int32) (0 : Int32)) (fun v3 M4 => wrI M4 (o + 2) 6 x1 (7 : Int32) (fun M5 => f_X7_clear_L2 Z o k n (x1 + (1 : Int32)) M5)))
def f_X7_clear (Z : Nat) (M : Mem) (o : Nat) : Option (Unit × Mem) :=
  f_X7_clear_L2 Z o (fun (M7 : Mem) => cl (f_J7_fill_53178 Z M7 (o + 3) 3 (0 : Int32)) (fun v8 M9 => bd (sI M9 o 3 (0 : Int32)) (fun M10 => bd (sI M10 o 4 (0 : Int32)) (fun M11 => bd (sI M11 o 5 (0 : Int32)) (fun M12 => bd (sI M12 o 6 (-1 : Int32)) (fun M13 => some ((), M13))))))) Z (0 : Int32) M
set_option maxRecDepth 100000 in
theorem l_X7_clear_L2 {Γ : WC} {X : MX} (hN : HN Γ) (C : CX Γ X cX7_clear 2 RX7 none (rmL 2 0 0)) {rM : Unit × Mem} (E : EndN Γ X none rM.2 0 0) {Z : Nat} {o : Nat} (h_o : SH[o]? = some (13, 9)) {k : Mem → Option (Unit × Mem)} (hk : ∀  (Mx : Mem), k Mx = some rM → G Γ X Mx 0 0 [some (.ref (wad Γ o))] [] 34) : ∀ (n : Nat) (x1 : Int32) (M2 : Mem), f_X7_clear_L2 Z o k n x1 M2 = some rM → G Γ X M2 0 0 [some (.ref (wad Γ o)), some (.int x1)] [] 2 := by
  intro n
  induction n with
  | zero =>
    intro x1 M2 hf
    have hf0 : (none : Option _) = some rM := hf
    cases hf0
  | succ n ih =>
    intro x1 M2 hf
    rw [f_X7_clear_L2] at hf
    refine x_iload_n C rfl rfl (dkAt dk_X7_clear 2 rfl) 3 rfl ?_
    refine x_bipush C (v := (6 : Int32)) (by decide) (dkAt dk_X7_clear 3 rfl) 5 rfl ?_
    refine x_icmp_ge C 34 (dkAt dk_X7_clear 4 rfl) 8 rfl (by decide) hf (fun hf => ?_) (fun hf => ?_)
    · exact G.weak (L := [some (.ref (wad Γ o))]) ⟨rfl, trivial⟩ (hk _ hf)
    · refine x_aload_n C rfl rfl (dkAt dk_X7_clear 5 rfl) 9 rfl ?_
      refine x_getS C lk_RX7_9 (hN.sh h_o) (hN.sr (sr_7_0 h_o)) (dkAt dk_X7_clear 6 rfl) 12 rfl ?_
      refine x_iload_n C rfl rfl (dkAt dk_X7_clear 7 rfl) 13 rfl ?_
      refine x_bipush C (v := (10 : Int32)) (by decide) (dkAt dk_X7_clear 8 rfl) 15 rfl ?_
      refine x_iconst C (v := (0 : Int32)) (by decide) (dkAt dk_X7_clear 9 rfl) 16 rfl ?_
      refine x_iconst C (v := (0 : Int32)) (by decide) (dkAt dk_X7_clear 10 rfl) 17 rfl ?_
      obtain ⟨v3, M4, h6, hf⟩ := cl_inv hf
      refine x_cNv C (c_X11_setWeights hN (sh_7_0 h_o) h6) mw_X11_setWeights ln_RX7_31 ms_X11_setWeights (ro_of (by decide) (by decide) (by decide) (by decide)) rfl rfl (Nat.le_of_ble_eq_true rfl) (dkAt dk_X7_clear 11 rfl) 20 rfl 0 0 rfl rfl ?_
      refine x_aload_n C rfl rfl (dkAt dk_X7_clear 12 rfl) 21 rfl ?_
      refine x_getS C lk_RX7_15 (hN.sh h_o) (hN.sr (sr_7_1 h_o)) (dkAt dk_X7_clear 13 rfl) 24 rfl ?_
      refine x_iload_n C rfl rfl (dkAt dk_X7_clear 14 rfl) 25 rfl ?_
      refine x_bipush C (v := (7 : Int32)) (by decide) (dkAt dk_X7_clear 15 rfl) 27 rfl ?_
      refine x_iast C (hN.sh (sh_7_1 h_o)) (dkAt dk_X7_clear 16 rfl) 28 rfl hf (fun M5 hf => ?_)
      refine x_iinc C (v := (x1 + (1 : Int32))) (L1 := [some (.ref (wad Γ o)), some (.int (x1 + (1 : Int32)))]) (dkAt dk_X7_clear 17 rfl) 31 rfl rfl rfl (by decide) rfl ?_
      refine x_goto C 2 (dkAt dk_X7_clear 18 rfl) (by decide) ?_
      exact G.weak (L := [some (.ref (wad Γ o)), some (.int (x1 + (1 : Int32)))]) ⟨rfl, rfl, trivial⟩ (ih _ _ hf)
set_option maxRecDepth 100000 in
theorem c_X7_clear {Γ : WC} (hN : HN Γ) {Z : Nat} {M : Mem} {o : Nat} {rM : Unit × Mem} (h_o : SH[o]? = some (13, 9)) (hf : f_X7_clear Z M o = some rM) : Ct Γ yX7_clear cX7_clear 2 none (rmL 2 0 0) [.ref (wad Γ o)] M none rM.2 := by
  refine mkN hN.1 (own := RX7) rfl (by decide) (Nat.le_of_ble_eq_true rfl) (fun X C E => ?_)
  change G Γ X M 0 0 [some (.ref (wad Γ o))] [] 0
  unfold f_X7_clear at hf
  refine x_iconst C (v := (0 : Int32)) (by decide) (dkAt dk_X7_clear 0 rfl) 1 rfl ?_
  refine x_istore_n C (L1 := [some (.ref (wad Γ o)), some (.int (0 : Int32))]) (dkAt dk_X7_clear 1 rfl) 2 rfl rfl (by decide) rfl ?_
  refine G.weak (L := [some (.ref (wad Γ o)), some (.int (0 : Int32))]) ⟨rfl, rfl, trivial⟩ ?_
  refine l_X7_clear_L2 hN C E h_o ?_ Z _ _ hf
  intro M7 hf
  refine x_aload_n C rfl rfl (dkAt dk_X7_clear 19 rfl) 35 rfl ?_
  refine x_getS C lk_RX7_18 (hN.sh h_o) (hN.sr (sr_7_2 h_o)) (dkAt dk_X7_clear 20 rfl) 38 rfl ?_
  refine x_iconst C (v := (0 : Int32)) (by decide) (dkAt dk_X7_clear 21 rfl) 39 rfl ?_
  obtain ⟨v8, M9, h14, hf⟩ := cl_inv hf
  refine x_cSv C (c_J7_fill_53178 hN (sh_7_2 h_o) h14) mw_J7_fill_53178 ln_RX7_35 ms_J7_fill_53178 (ro_of (by decide) (by decide) (by decide) (by decide)) rfl rfl (Nat.le_of_ble_eq_true rfl) (dkAt dk_X7_clear 22 rfl) 42 rfl 0 0 rfl rfl ?_
  refine x_aload_n C rfl rfl (dkAt dk_X7_clear 23 rfl) 43 rfl ?_
  refine x_iconst C (v := (0 : Int32)) (by decide) (dkAt dk_X7_clear 24 rfl) 44 rfl ?_
  refine x_putI C pk_RX7_41 ⟨_, rfl⟩ (hN.sh h_o) (dkAt dk_X7_clear 25 rfl) 47 rfl hf (fun M10 hf => ?_)
  refine x_aload_n C rfl rfl (dkAt dk_X7_clear 26 rfl) 48 rfl ?_
  refine x_iconst C (v := (0 : Int32)) (by decide) (dkAt dk_X7_clear 27 rfl) 49 rfl ?_
  refine x_putI C pk_RX7_44 ⟨_, rfl⟩ (hN.sh h_o) (dkAt dk_X7_clear 28 rfl) 52 rfl hf (fun M11 hf => ?_)
  refine x_aload_n C rfl rfl (dkAt dk_X7_clear 29 rfl) 53 rfl ?_
  refine x_iconst C (v := (0 : Int32)) (by decide) (dkAt dk_X7_clear 30 rfl) 54 rfl ?_
  refine x_putI C pk_RX7_47 ⟨_, rfl⟩ (hN.sh h_o) (dkAt dk_X7_clear 31 rfl) 57 rfl hf (fun M12 hf => ?_)
  refine x_aload_n C rfl rfl (dkAt dk_X7_clear 32 rfl) 58 rfl ?_
  refine x_iconst C (v := (-1 : Int32)) (by decide) (dkAt dk_X7_clear 33 rfl) 59 rfl ?_
  refine x_putI C pk_RX7_21 ⟨_, rfl⟩ (hN.sh h_o) (dkAt dk_X7_clear 34 rfl) 62 rfl hf (fun M13 hf => ?_)
  exact x_vret C E hf (by decide) (by decide) (dkAt dk_X7_clear 35 rfl)
def f_X4_fail (Z : Nat) (M : Mem) (p0 : Int32) : Option (Int32 × Mem) :=
  bd (sI M (21) 2 p0) (fun M1 => bd (gI M1 (1) 4) (fun v2 => bd (sI M1 (21) 3 v2) (fun M3 => some ((0 : Int32), M3))))
set_option maxRecDepth 100000 in
theorem c_X4_fail {Γ : WC} (hN : HN Γ) {Z : Nat} {M : Mem} {p0 : Int32} {rM : Int32 × Mem}  (hf : f_X4_fail Z M p0 = some rM) : Ct Γ yX4_fail cX4_fail 2 (some .boolean) (rmL 0 0 0) [.ref (wad Γ 21), .int p0] M (some (.int rM.1)) rM.2 := by
  refine mkN hN.1 (own := RX4) rfl (by decide) (Nat.le_of_ble_eq_true rfl) (fun X C E => ?_)
  change G Γ X M 0 0 [some (.ref (wad Γ 21)), some (.int p0)] [] 0
  unfold f_X4_fail at hf
  refine x_aload_n C rfl rfl (dkAt dk_X4_fail 0 rfl) 1 rfl ?_
  refine x_iload_n C rfl rfl (dkAt dk_X4_fail 1 rfl) 2 rfl ?_
  refine x_putI C pk_RX4_33 ⟨_, rfl⟩ (hN.sh sh21) (dkAt dk_X4_fail 2 rfl) 5 rfl hf (fun M1 hf => ?_)
  refine x_aload_n C rfl rfl (dkAt dk_X4_fail 3 rfl) 6 rfl ?_
  refine x_aload_n C rfl rfl (dkAt dk_X4_fail 4 rfl) 7 rfl ?_
  refine x_getS C lk_RX4_29 (hN.sh sh21) (hN.sr sr21_4) (dkAt dk_X4_fail 5 rfl) 10 rfl ?_
  refine x_getI C lk_RX4_69 (hN.sh sh1) (dkAt dk_X4_fail 6 rfl) 13 rfl hf (fun v2 hf => ?_)
  refine x_putI C pk_RX4_25 ⟨_, rfl⟩ (hN.sh sh21) (dkAt dk_X4_fail 7 rfl) 16 rfl hf (fun M3 hf => ?_)
  refine x_iconst C (v := (0 : Int32)) (by decide) (dkAt dk_X4_fail 8 rfl) 17 rfl ?_
  exact x_zret C E (by decide) hf (by decide) (by decide) (dkAt dk_X4_fail 9 rfl)
def f_X4_takeWord (Z : Nat) (M : Mem) (p0 : Nat) : Option (Int32 × Mem) :=
  cl (f_X2_isWord Z M p0) (fun v1 M2 => (if v1 = 0 then cl (f_X4_fail Z M2 (1 : Int32)) (fun v6 M7 => (if v6 &&& 1 = v6 then some (v6, M7) else none)) else cl (f_X2_advance Z M2) (fun v3 M4 => some ((1 : Int32), M4))))
set_option maxRecDepth 100000 in
theorem c_X4_takeWord {Γ : WC} (hN : HN Γ) {Z : Nat} {M : Mem} {p0 : Nat} {rM : Int32 × Mem} (h_p0 : p0 < 21) (hf : f_X4_takeWord Z M p0 = some rM) : Ct Γ yX4_takeWord cX4_takeWord 2 (some .boolean) (rmL 7 0 0) [.ref (wad Γ 21), .ref (wst Γ p0)] M (some (.int rM.1)) rM.2 := by
  refine mkN hN.1 (own := RX4) rfl (by decide) (Nat.le_of_ble_eq_true rfl) (fun X C E => ?_)
  change G Γ X M 0 0 [some (.ref (wad Γ 21)), some (.ref (wst Γ p0))] [] 0
  unfold f_X4_takeWord at hf
  refine x_aload_n C rfl rfl (dkAt dk_X4_takeWord 0 rfl) 1 rfl ?_
  refine x_getS C lk_RX4_29 (hN.sh sh21) (hN.sr sr21_4) (dkAt dk_X4_takeWord 1 rfl) 4 rfl ?_
  refine x_aload_n C rfl rfl (dkAt dk_X4_takeWord 2 rfl) 5 rfl ?_
  obtain ⟨v1, M2, h9, hf⟩ := cl_inv hf
  refine x_cVi C (c_X2_isWord hN h_p0 h9) mw_X2_isWord ln_RX4_72 mi_X2_isWord (hN.rc (ci := 2) sh1 rc2) (ro_of (by decide) (by decide) (by decide) (by decide)) rfl rfl (Nat.le_of_ble_eq_true rfl) (dkAt dk_X4_takeWord 3 rfl) 8 rfl 0 0 rfl rfl ?_
  refine x_if_ne C 17 (dkAt dk_X4_takeWord 4 rfl) 11 rfl (by decide) hf (fun hf => ?_) (fun hf => ?_)
  · refine x_aload_n C rfl rfl (dkAt dk_X4_takeWord 9 rfl) 18 rfl ?_
    refine x_getS C lk_RX4_29 (hN.sh sh21) (hN.sr sr21_4) (dkAt dk_X4_takeWord 10 rfl) 21 rfl ?_
    obtain ⟨v3, M4, h5, hf⟩ := cl_inv hf
    refine x_cVv C (c_X2_advance hN h5) mw_X2_advance ln_RX4_56 mi_X2_advance (hN.rc (ci := 2) sh1 rc2) (ro_of (by decide) (by decide) (by decide) (by decide)) rfl rfl (Nat.le_of_ble_eq_true rfl) (dkAt dk_X4_takeWord 11 rfl) 24 rfl 0 0 rfl rfl ?_
    refine x_iconst C (v := (1 : Int32)) (by decide) (dkAt dk_X4_takeWord 12 rfl) 25 rfl ?_
    exact x_zret C E (by decide) hf (by decide) (by decide) (dkAt dk_X4_takeWord 13 rfl)
  · refine x_aload_n C rfl rfl (dkAt dk_X4_takeWord 5 rfl) 12 rfl ?_
    refine x_iconst C (v := (1 : Int32)) (by decide) (dkAt dk_X4_takeWord 6 rfl) 13 rfl ?_
    obtain ⟨v6, M7, h8, hf⟩ := cl_inv hf
    refine x_cVi C (c_X4_fail hN h8) mw_X4_fail ln_RX4_65 mi_X4_fail (hN.rc (ci := 4) sh21 rc4) (ro_of (by decide) (by decide) (by decide) (by decide)) rfl rfl (Nat.le_of_ble_eq_true rfl) (dkAt dk_X4_takeWord 7 rfl) 16 rfl 0 0 rfl rfl ?_
    obtain ⟨hz, hf⟩ := if_some hf
    exact x_zret C E hz hf (by decide) (by decide) (dkAt dk_X4_takeWord 8 rfl)
def f_X4_seeNumber (Z : Nat) (M : Mem) (p0 : Int32) (p1 : Int32) : Option (Int32 × Mem) :=
  bd (gI M (1) 3) (fun v1 => (if v1 = (2 : Int32) then bd (gI M (1) 6) (fun v2 => bd (sI M (21) 5 v2) (fun M3 => bd (gI M3 (21) 5) (fun v4 => jn (fun (t5 : Unit) => cl (f_X4_fail Z M3 (2 : Int32)) (fun v6 M7 => (if v6 = 0 then some ((0 : Int32), M7) else some ((1 : Int32), M7)))) (fun j9 => (if v4 < p0 then j9 () else bd (gI M3 (21) 5) (fun v10 => (if v10 ≤ p1 then some ((1 : Int32), M3) else j9 ()))))))) else cl (f_X4_fail Z M (1 : Int32)) (fun v11 M12 => (if v11 &&& 1 = v11 then some (v11, M12) else none))))
set_option maxRecDepth 100000 in
theorem c_X4_seeNumber {Γ : WC} (hN : HN Γ) {Z : Nat} {M : Mem} {p0 : Int32} {p1 : Int32} {rM : Int32 × Mem}  (hf : f_X4_seeNumber Z M p0 p1 = some rM) : Ct Γ yX4_seeNumber cX4_seeNumber 3 (some .boolean) (rmL 1 0 0) [.ref (wad Γ 21), .int p0, .int p1] M (some (.int rM.1)) rM.2 := by
  refine mkN hN.1 (own := RX4) rfl (by decide) (Nat.le_of_ble_eq_true rfl) (fun X C E => ?_)
  change G Γ X M 0 0 [some (.ref (wad Γ 21)), some (.int p0), some (.int p1)] [] 0
  unfold f_X4_seeNumber at hf
  refine x_aload_n C rfl rfl (dkAt dk_X4_seeNumber 0 rfl) 1 rfl ?_
  refine x_getS C lk_RX4_29 (hN.sh sh21) (hN.sr sr21_4) (dkAt dk_X4_seeNumber 1 rfl) 4 rfl ?_
  refine x_getI C lk_RX4_53 (hN.sh sh1) (dkAt dk_X4_seeNumber 2 rfl) 7 rfl hf (fun v1 hf => ?_)
  refine x_iconst C (v := (2 : Int32)) (by decide) (dkAt dk_X4_seeNumber 3 rfl) 8 rfl ?_
  refine x_icmp_eq C 17 (dkAt dk_X4_seeNumber 4 rfl) 11 rfl (by decide) hf (fun hf => ?_) (fun hf => ?_)
  · refine x_aload_n C rfl rfl (dkAt dk_X4_seeNumber 9 rfl) 18 rfl ?_
    refine x_aload_n C rfl rfl (dkAt dk_X4_seeNumber 10 rfl) 19 rfl ?_
    refine x_getS C lk_RX4_29 (hN.sh sh21) (hN.sr sr21_4) (dkAt dk_X4_seeNumber 11 rfl) 22 rfl ?_
    refine x_getI C lk_RX4_76 (hN.sh sh1) (dkAt dk_X4_seeNumber 12 rfl) 25 rfl hf (fun v2 hf => ?_)
    refine x_putI C pk_RX4_79 ⟨_, rfl⟩ (hN.sh sh21) (dkAt dk_X4_seeNumber 13 rfl) 28 rfl hf (fun M3 hf => ?_)
    refine x_aload_n C rfl rfl (dkAt dk_X4_seeNumber 14 rfl) 29 rfl ?_
    refine x_getI C lk_RX4_79 (hN.sh sh21) (dkAt dk_X4_seeNumber 15 rfl) 32 rfl hf (fun v4 hf => ?_)
    refine x_iload_n C rfl rfl (dkAt dk_X4_seeNumber 16 rfl) 33 rfl ?_
    refine x_join hf (fun t5 => G Γ X M3 0 0 [some (.ref (wad Γ 21))] [] 44) (fun t5 hf => ?_) (fun j9 hj9 hf => ?_)
    · refine x_aload_n C rfl rfl (dkAt dk_X4_seeNumber 22 rfl) 45 rfl ?_
      refine x_iconst C (v := (2 : Int32)) (by decide) (dkAt dk_X4_seeNumber 23 rfl) 46 rfl ?_
      obtain ⟨v6, M7, h8, hf⟩ := cl_inv hf
      refine x_cVi C (c_X4_fail hN h8) mw_X4_fail ln_RX4_65 mi_X4_fail (hN.rc (ci := 4) sh21 rc4) (ro_of (by decide) (by decide) (by decide) (by decide)) rfl rfl (Nat.le_of_ble_eq_true rfl) (dkAt dk_X4_seeNumber 24 rfl) 49 rfl 0 0 rfl rfl ?_
      refine x_if_eq C 56 (dkAt dk_X4_seeNumber 25 rfl) 52 rfl (by decide) hf (fun hf => ?_) (fun hf => ?_)
      · refine x_iconst C (v := (0 : Int32)) (by decide) (dkAt dk_X4_seeNumber 28 rfl) 57 rfl ?_
        exact x_zret C E (by decide) hf (by decide) (by decide) (dkAt dk_X4_seeNumber 29 rfl)
      · refine x_iconst C (v := (1 : Int32)) (by decide) (dkAt dk_X4_seeNumber 26 rfl) 53 rfl ?_
        refine x_goto C 57 (dkAt dk_X4_seeNumber 27 rfl) (by decide) ?_
        exact x_zret C E (by decide) hf (by decide) (by decide) (dkAt dk_X4_seeNumber 29 rfl)
    · refine x_icmp_lt C 44 (dkAt dk_X4_seeNumber 17 rfl) 36 rfl (by decide) hf (fun hf => ?_) (fun hf => ?_)
      · exact G.weak (L := [some (.ref (wad Γ 21))]) ⟨rfl, trivial⟩ (hj9 _ hf)
      · refine x_aload_n C rfl rfl (dkAt dk_X4_seeNumber 18 rfl) 37 rfl ?_
        refine x_getI C lk_RX4_79 (hN.sh sh21) (dkAt dk_X4_seeNumber 19 rfl) 40 rfl hf (fun v10 hf => ?_)
        refine x_iload_n C rfl rfl (dkAt dk_X4_seeNumber 20 rfl) 41 rfl ?_
        refine x_icmp_le C 52 (dkAt dk_X4_seeNumber 21 rfl) 44 rfl (by decide) hf (fun hf => ?_) (fun hf => ?_)
        · refine x_iconst C (v := (1 : Int32)) (by decide) (dkAt dk_X4_seeNumber 26 rfl) 53 rfl ?_
          refine x_goto C 57 (dkAt dk_X4_seeNumber 27 rfl) (by decide) ?_
          exact x_zret C E (by decide) hf (by decide) (by decide) (dkAt dk_X4_seeNumber 29 rfl)
        · exact G.weak (L := [some (.ref (wad Γ 21))]) ⟨rfl, trivial⟩ (hj9 _ hf)
  · refine x_aload_n C rfl rfl (dkAt dk_X4_seeNumber 5 rfl) 12 rfl ?_
    refine x_iconst C (v := (1 : Int32)) (by decide) (dkAt dk_X4_seeNumber 6 rfl) 13 rfl ?_
    obtain ⟨v11, M12, h13, hf⟩ := cl_inv hf
    refine x_cVi C (c_X4_fail hN h13) mw_X4_fail ln_RX4_65 mi_X4_fail (hN.rc (ci := 4) sh21 rc4) (ro_of (by decide) (by decide) (by decide) (by decide)) rfl rfl (Nat.le_of_ble_eq_true rfl) (dkAt dk_X4_seeNumber 7 rfl) 16 rfl 0 0 rfl rfl ?_
    obtain ⟨hz, hf⟩ := if_some hf
    exact x_zret C E hz hf (by decide) (by decide) (dkAt dk_X4_seeNumber 8 rfl)
def f_X4_takeNumber (Z : Nat) (M : Mem) (p0 : Int32) (p1 : Int32) : Option (Int32 × Mem) :=
  cl (f_X4_seeNumber Z M p0 p1) (fun v1 M2 => (if v1 = 0 then some ((0 : Int32), M2) else cl (f_X2_advance Z M2) (fun v3 M4 => some ((1 : Int32), M4))))
set_option maxRecDepth 100000 in
theorem c_X4_takeNumber {Γ : WC} (hN : HN Γ) {Z : Nat} {M : Mem} {p0 : Int32} {p1 : Int32} {rM : Int32 × Mem}  (hf : f_X4_takeNumber Z M p0 p1 = some rM) : Ct Γ yX4_takeNumber cX4_takeNumber 3 (some .boolean) (rmL 2 0 0) [.ref (wad Γ 21), .int p0, .int p1] M (some (.int rM.1)) rM.2 := by
  refine mkN hN.1 (own := RX4) rfl (by decide) (Nat.le_of_ble_eq_true rfl) (fun X C E => ?_)
  change G Γ X M 0 0 [some (.ref (wad Γ 21)), some (.int p0), some (.int p1)] [] 0
  unfold f_X4_takeNumber at hf
  refine x_aload_n C rfl rfl (dkAt dk_X4_takeNumber 0 rfl) 1 rfl ?_
  refine x_iload_n C rfl rfl (dkAt dk_X4_takeNumber 1 rfl) 2 rfl ?_
  refine x_iload_n C rfl rfl (dkAt dk_X4_takeNumber 2 rfl) 3 rfl ?_
  obtain ⟨v1, M2, h6, hf⟩ := cl_inv hf
  refine x_cVi C (c_X4_seeNumber hN h6) mw_X4_seeNumber ln_RX4_82 mi_X4_seeNumber (hN.rc (ci := 4) sh21 rc4) (ro_of (by decide) (by decide) (by decide) (by decide)) rfl rfl (Nat.le_of_ble_eq_true rfl) (dkAt dk_X4_takeNumber 3 rfl) 6 rfl 0 0 rfl rfl ?_
  refine x_if_ne C 11 (dkAt dk_X4_takeNumber 4 rfl) 9 rfl (by decide) hf (fun hf => ?_) (fun hf => ?_)
  · refine x_aload_n C rfl rfl (dkAt dk_X4_takeNumber 7 rfl) 12 rfl ?_
    refine x_getS C lk_RX4_29 (hN.sh sh21) (hN.sr sr21_4) (dkAt dk_X4_takeNumber 8 rfl) 15 rfl ?_
    obtain ⟨v3, M4, h5, hf⟩ := cl_inv hf
    refine x_cVv C (c_X2_advance hN h5) mw_X2_advance ln_RX4_56 mi_X2_advance (hN.rc (ci := 2) sh1 rc2) (ro_of (by decide) (by decide) (by decide) (by decide)) rfl rfl (Nat.le_of_ble_eq_true rfl) (dkAt dk_X4_takeNumber 9 rfl) 18 rfl 0 0 rfl rfl ?_
    refine x_iconst C (v := (1 : Int32)) (by decide) (dkAt dk_X4_takeNumber 10 rfl) 19 rfl ?_
    exact x_zret C E (by decide) hf (by decide) (by decide) (dkAt dk_X4_takeNumber 11 rfl)
  · refine x_iconst C (v := (0 : Int32)) (by decide) (dkAt dk_X4_takeNumber 5 rfl) 10 rfl ?_
    exact x_zret C E (by decide) hf (by decide) (by decide) (dkAt dk_X4_takeNumber 6 rfl)
def f_X4_parseHead (Z : Nat) (M : Mem)  : Option (Int32 × Mem) :=
  cl (f_X4_takeWord Z M 0) (fun v1 M2 => (if v1 = 0 then some ((0 : Int32), M2) else cl (f_X4_takeWord Z M2 1) (fun v3 M4 => (if v3 = 0 then some ((0 : Int32), M4) else cl (f_X4_takeNumber Z M4 (1 : Int32) (6 : Int32)) (fun v5 M6 => (if v5 = 0 then some ((0 : Int32), M6) else bd (gI M6 (21) 5) (fun v7 => bd (sI M6 (22) 0 v7) (fun M8 => cl (f_X4_takeWord Z M8 2) (fun v9 M10 => (if v9 = 0 then some ((0 : Int32), M10) else cl (f_X4_takeNumber Z M10 (1 : Int32) (5 : Int32)) (fun v11 M12 => (if v11 = 0 then some ((0 : Int32), M12) else bd (gI M12 (21) 5) (fun v13 => bd (sI M12 (29) 4 v13) (fun M14 => cl (f_X4_takeWord Z M14 3) (fun v15 M16 => (if v15 = 0 then some ((0 : Int32), M16) else cl (f_X4_takeNumber Z M16 (0 : Int32) (30010 : Int32)) (fun v17 M18 => (if v17 = 0 then some ((0 : Int32), M18) else bd (gI M18 (21) 5) (fun v19 => bd (sI M18 (29) 5 v19) (fun M20 => some ((1 : Int32), M20)))))))))))))))))))))
set_option maxRecDepth 100000 in
theorem c_X4_parseHead {Γ : WC} (hN : HN Γ) {Z : Nat} {M : Mem}  {rM : Int32 × Mem}  (hf : f_X4_parseHead Z M  = some rM) : Ct Γ yX4_parseHead cX4_parseHead 1 (some .boolean) (rmL 8 0 0) [.ref (wad Γ 21)] M (some (.int rM.1)) rM.2 := by
  refine mkN hN.1 (own := RX4) rfl (by decide) (Nat.le_of_ble_eq_true rfl) (fun X C E => ?_)
  change G Γ X M 0 0 [some (.ref (wad Γ 21))] [] 0
  unfold f_X4_parseHead at hf
  refine x_aload_n C rfl rfl (dkAt dk_X4_parseHead 0 rfl) 1 rfl ?_
  refine x_ldcS C (hN.st (i := 12) rfl) (dkAt dk_X4_parseHead 1 rfl) 3 rfl ?_
  obtain ⟨v1, M2, h27, hf⟩ := cl_inv hf
  refine x_cVi C (c_X4_takeWord hN (by decide) h27) mw_X4_takeWord ln_RX4_90 mi_X4_takeWord (hN.rc (ci := 4) sh21 rc4) (ro_of (by decide) (by decide) (by decide) (by decide)) rfl rfl (Nat.le_of_ble_eq_true rfl) (dkAt dk_X4_parseHead 2 rfl) 6 rfl 0 0 rfl rfl ?_
  refine x_if_eq C 28 (dkAt dk_X4_parseHead 3 rfl) 9 rfl (by decide) hf (fun hf => ?_) (fun hf => ?_)
  · refine x_iconst C (v := (0 : Int32)) (by decide) (dkAt dk_X4_parseHead 13 rfl) 29 rfl ?_
    exact x_zret C E (by decide) hf (by decide) (by decide) (dkAt dk_X4_parseHead 14 rfl)
  · refine x_aload_n C rfl rfl (dkAt dk_X4_parseHead 4 rfl) 10 rfl ?_
    refine x_ldcS C (hN.st (i := 13) rfl) (dkAt dk_X4_parseHead 5 rfl) 12 rfl ?_
    obtain ⟨v3, M4, h26, hf⟩ := cl_inv hf
    refine x_cVi C (c_X4_takeWord hN (by decide) h26) mw_X4_takeWord ln_RX4_90 mi_X4_takeWord (hN.rc (ci := 4) sh21 rc4) (ro_of (by decide) (by decide) (by decide) (by decide)) rfl rfl (Nat.le_of_ble_eq_true rfl) (dkAt dk_X4_parseHead 6 rfl) 15 rfl 0 0 rfl rfl ?_
    refine x_if_eq C 28 (dkAt dk_X4_parseHead 7 rfl) 18 rfl (by decide) hf (fun hf => ?_) (fun hf => ?_)
    · refine x_iconst C (v := (0 : Int32)) (by decide) (dkAt dk_X4_parseHead 13 rfl) 29 rfl ?_
      exact x_zret C E (by decide) hf (by decide) (by decide) (dkAt dk_X4_parseHead 14 rfl)
    · refine x_aload_n C rfl rfl (dkAt dk_X4_parseHead 8 rfl) 19 rfl ?_
      refine x_iconst C (v := (1 : Int32)) (by decide) (dkAt dk_X4_parseHead 9 rfl) 20 rfl ?_
      refine x_bipush C (v := (6 : Int32)) (by decide) (dkAt dk_X4_parseHead 10 rfl) 22 rfl ?_
      obtain ⟨v5, M6, h25, hf⟩ := cl_inv hf
      refine x_cVi C (c_X4_takeNumber hN h25) mw_X4_takeNumber ln_RX4_94 mi_X4_takeNumber (hN.rc (ci := 4) sh21 rc4) (ro_of (by decide) (by decide) (by decide) (by decide)) rfl rfl (Nat.le_of_ble_eq_true rfl) (dkAt dk_X4_parseHead 11 rfl) 25 rfl 0 0 rfl rfl ?_
      refine x_if_ne C 30 (dkAt dk_X4_parseHead 12 rfl) 28 rfl (by decide) hf (fun hf => ?_) (fun hf => ?_)
      · refine x_aload_n C rfl rfl (dkAt dk_X4_parseHead 15 rfl) 31 rfl ?_
        refine x_getS C lk_RX4_12 (hN.sh sh21) (hN.sr sr21_0) (dkAt dk_X4_parseHead 16 rfl) 34 rfl ?_
        refine x_aload_n C rfl rfl (dkAt dk_X4_parseHead 17 rfl) 35 rfl ?_
        refine x_getI C lk_RX4_79 (hN.sh sh21) (dkAt dk_X4_parseHead 18 rfl) 38 rfl hf (fun v7 hf => ?_)
        refine x_putI C pk_RX4_86 ⟨_, rfl⟩ (hN.sh sh22) (dkAt dk_X4_parseHead 19 rfl) 41 rfl hf (fun M8 hf => ?_)
        refine x_aload_n C rfl rfl (dkAt dk_X4_parseHead 20 rfl) 42 rfl ?_
        refine x_ldcS C (hN.st (i := 14) rfl) (dkAt dk_X4_parseHead 21 rfl) 44 rfl ?_
        obtain ⟨v9, M10, h24, hf⟩ := cl_inv hf
        refine x_cVi C (c_X4_takeWord hN (by decide) h24) mw_X4_takeWord ln_RX4_90 mi_X4_takeWord (hN.rc (ci := 4) sh21 rc4) (ro_of (by decide) (by decide) (by decide) (by decide)) rfl rfl (Nat.le_of_ble_eq_true rfl) (dkAt dk_X4_parseHead 22 rfl) 47 rfl 0 0 rfl rfl ?_
        refine x_if_eq C 59 (dkAt dk_X4_parseHead 23 rfl) 50 rfl (by decide) hf (fun hf => ?_) (fun hf => ?_)
        · refine x_iconst C (v := (0 : Int32)) (by decide) (dkAt dk_X4_parseHead 29 rfl) 60 rfl ?_
          exact x_zret C E (by decide) hf (by decide) (by decide) (dkAt dk_X4_parseHead 30 rfl)
        · refine x_aload_n C rfl rfl (dkAt dk_X4_parseHead 24 rfl) 51 rfl ?_
          refine x_iconst C (v := (1 : Int32)) (by decide) (dkAt dk_X4_parseHead 25 rfl) 52 rfl ?_
          refine x_iconst C (v := (5 : Int32)) (by decide) (dkAt dk_X4_parseHead 26 rfl) 53 rfl ?_
          obtain ⟨v11, M12, h23, hf⟩ := cl_inv hf
          refine x_cVi C (c_X4_takeNumber hN h23) mw_X4_takeNumber ln_RX4_94 mi_X4_takeNumber (hN.rc (ci := 4) sh21 rc4) (ro_of (by decide) (by decide) (by decide) (by decide)) rfl rfl (Nat.le_of_ble_eq_true rfl) (dkAt dk_X4_parseHead 27 rfl) 56 rfl 0 0 rfl rfl ?_
          refine x_if_ne C 61 (dkAt dk_X4_parseHead 28 rfl) 59 rfl (by decide) hf (fun hf => ?_) (fun hf => ?_)
          · refine x_aload_n C rfl rfl (dkAt dk_X4_parseHead 31 rfl) 62 rfl ?_
            refine x_getS C lk_RX4_21 (hN.sh sh21) (hN.sr sr21_1) (dkAt dk_X4_parseHead 32 rfl) 65 rfl ?_
            refine x_aload_n C rfl rfl (dkAt dk_X4_parseHead 33 rfl) 66 rfl ?_
            refine x_getI C lk_RX4_79 (hN.sh sh21) (dkAt dk_X4_parseHead 34 rfl) 69 rfl hf (fun v13 hf => ?_)
            refine x_putI C pk_RX4_99 ⟨_, rfl⟩ (hN.sh sh29) (dkAt dk_X4_parseHead 35 rfl) 72 rfl hf (fun M14 hf => ?_)
            refine x_aload_n C rfl rfl (dkAt dk_X4_parseHead 36 rfl) 73 rfl ?_
            refine x_ldcS C (hN.st (i := 15) rfl) (dkAt dk_X4_parseHead 37 rfl) 75 rfl ?_
            obtain ⟨v15, M16, h22, hf⟩ := cl_inv hf
            refine x_cVi C (c_X4_takeWord hN (by decide) h22) mw_X4_takeWord ln_RX4_90 mi_X4_takeWord (hN.rc (ci := 4) sh21 rc4) (ro_of (by decide) (by decide) (by decide) (by decide)) rfl rfl (Nat.le_of_ble_eq_true rfl) (dkAt dk_X4_parseHead 38 rfl) 78 rfl 0 0 rfl rfl ?_
            refine x_if_eq C 92 (dkAt dk_X4_parseHead 39 rfl) 81 rfl (by decide) hf (fun hf => ?_) (fun hf => ?_)
            · refine x_iconst C (v := (0 : Int32)) (by decide) (dkAt dk_X4_parseHead 45 rfl) 93 rfl ?_
              exact x_zret C E (by decide) hf (by decide) (by decide) (dkAt dk_X4_parseHead 46 rfl)
            · refine x_aload_n C rfl rfl (dkAt dk_X4_parseHead 40 rfl) 82 rfl ?_
              refine x_iconst C (v := (0 : Int32)) (by decide) (dkAt dk_X4_parseHead 41 rfl) 83 rfl ?_
              refine x_sipush C (v := (30010 : Int32)) (by decide) (dkAt dk_X4_parseHead 42 rfl) 86 rfl ?_
              obtain ⟨v17, M18, h21, hf⟩ := cl_inv hf
              refine x_cVi C (c_X4_takeNumber hN h21) mw_X4_takeNumber ln_RX4_94 mi_X4_takeNumber (hN.rc (ci := 4) sh21 rc4) (ro_of (by decide) (by decide) (by decide) (by decide)) rfl rfl (Nat.le_of_ble_eq_true rfl) (dkAt dk_X4_parseHead 43 rfl) 89 rfl 0 0 rfl rfl ?_
              refine x_if_ne C 94 (dkAt dk_X4_parseHead 44 rfl) 92 rfl (by decide) hf (fun hf => ?_) (fun hf => ?_)
              · refine x_aload_n C rfl rfl (dkAt dk_X4_parseHead 47 rfl) 95 rfl ?_
                refine x_getS C lk_RX4_21 (hN.sh sh21) (hN.sr sr21_1) (dkAt dk_X4_parseHead 48 rfl) 98 rfl ?_
                refine x_aload_n C rfl rfl (dkAt dk_X4_parseHead 49 rfl) 99 rfl ?_
                refine x_getI C lk_RX4_79 (hN.sh sh21) (dkAt dk_X4_parseHead 50 rfl) 102 rfl hf (fun v19 hf => ?_)
                refine x_putI C pk_RX4_103 ⟨_, rfl⟩ (hN.sh sh29) (dkAt dk_X4_parseHead 51 rfl) 105 rfl hf (fun M20 hf => ?_)
                refine x_iconst C (v := (1 : Int32)) (by decide) (dkAt dk_X4_parseHead 52 rfl) 106 rfl ?_
                exact x_zret C E (by decide) hf (by decide) (by decide) (dkAt dk_X4_parseHead 53 rfl)
              · refine x_iconst C (v := (0 : Int32)) (by decide) (dkAt dk_X4_parseHead 45 rfl) 93 rfl ?_
                exact x_zret C E (by decide) hf (by decide) (by decide) (dkAt dk_X4_parseHead 46 rfl)
          · refine x_iconst C (v := (0 : Int32)) (by decide) (dkAt dk_X4_parseHead 29 rfl) 60 rfl ?_
            exact x_zret C E (by decide) hf (by decide) (by decide) (dkAt dk_X4_parseHead 30 rfl)
      · refine x_iconst C (v := (0 : Int32)) (by decide) (dkAt dk_X4_parseHead 13 rfl) 29 rfl ?_
        exact x_zret C E (by decide) hf (by decide) (by decide) (dkAt dk_X4_parseHead 14 rfl)
def f_X4_parseBudget (Z : Nat) (M : Mem)  : Option (Int32 × Mem) :=
  bd (gI M (22) 1) (fun v1 => (if v1 < (3 : Int32) then cl (f_X2_advance Z M) (fun v2 M3 => cl (f_X4_takeNumber Z M3 (0 : Int32) (9999 : Int32)) (fun v4 M5 => (if v4 = 0 then some ((0 : Int32), M5) else bd (gI M5 (22) 1) (fun v6 => bd (gI M5 (21) 5) (fun v7 => wrI M5 32 3 v6 v7 (fun M8 => bd (gI M8 (22) 1) (fun v9 => bd (sI M8 (22) 1 (v9 + (1 : Int32))) (fun M10 => some ((1 : Int32), M10))))))))) else cl (f_X4_fail Z M (4 : Int32)) (fun v13 M14 => (if v13 &&& 1 = v13 then some (v13, M14) else none))))
set_option maxRecDepth 100000 in
theorem c_X4_parseBudget {Γ : WC} (hN : HN Γ) {Z : Nat} {M : Mem}  {rM : Int32 × Mem}  (hf : f_X4_parseBudget Z M  = some rM) : Ct Γ yX4_parseBudget cX4_parseBudget 1 (some .boolean) (rmL 3 0 0) [.ref (wad Γ 21)] M (some (.int rM.1)) rM.2 := by
  refine mkN hN.1 (own := RX4) rfl (by decide) (Nat.le_of_ble_eq_true rfl) (fun X C E => ?_)
  change G Γ X M 0 0 [some (.ref (wad Γ 21))] [] 0
  unfold f_X4_parseBudget at hf
  refine x_aload_n C rfl rfl (dkAt dk_X4_parseBudget 0 rfl) 1 rfl ?_
  refine x_getS C lk_RX4_12 (hN.sh sh21) (hN.sr sr21_0) (dkAt dk_X4_parseBudget 1 rfl) 4 rfl ?_
  refine x_getI C lk_RX4_123 (hN.sh sh22) (dkAt dk_X4_parseBudget 2 rfl) 7 rfl hf (fun v1 hf => ?_)
  refine x_iconst C (v := (3 : Int32)) (by decide) (dkAt dk_X4_parseBudget 3 rfl) 8 rfl ?_
  refine x_icmp_lt C 17 (dkAt dk_X4_parseBudget 4 rfl) 11 rfl (by decide) hf (fun hf => ?_) (fun hf => ?_)
  · refine x_aload_n C rfl rfl (dkAt dk_X4_parseBudget 9 rfl) 18 rfl ?_
    refine x_getS C lk_RX4_29 (hN.sh sh21) (hN.sr sr21_4) (dkAt dk_X4_parseBudget 10 rfl) 21 rfl ?_
    obtain ⟨v2, M3, h12, hf⟩ := cl_inv hf
    refine x_cVv C (c_X2_advance hN h12) mw_X2_advance ln_RX4_56 mi_X2_advance (hN.rc (ci := 2) sh1 rc2) (ro_of (by decide) (by decide) (by decide) (by decide)) rfl rfl (Nat.le_of_ble_eq_true rfl) (dkAt dk_X4_parseBudget 11 rfl) 24 rfl 0 0 rfl rfl ?_
    refine x_aload_n C rfl rfl (dkAt dk_X4_parseBudget 12 rfl) 25 rfl ?_
    refine x_iconst C (v := (0 : Int32)) (by decide) (dkAt dk_X4_parseBudget 13 rfl) 26 rfl ?_
    refine x_sipush C (v := (9999 : Int32)) (by decide) (dkAt dk_X4_parseBudget 14 rfl) 29 rfl ?_
    obtain ⟨v4, M5, h11, hf⟩ := cl_inv hf
    refine x_cVi C (c_X4_takeNumber hN h11) mw_X4_takeNumber ln_RX4_94 mi_X4_takeNumber (hN.rc (ci := 4) sh21 rc4) (ro_of (by decide) (by decide) (by decide) (by decide)) rfl rfl (Nat.le_of_ble_eq_true rfl) (dkAt dk_X4_parseBudget 15 rfl) 32 rfl 0 0 rfl rfl ?_
    refine x_if_ne C 37 (dkAt dk_X4_parseBudget 16 rfl) 35 rfl (by decide) hf (fun hf => ?_) (fun hf => ?_)
    · refine x_aload_n C rfl rfl (dkAt dk_X4_parseBudget 19 rfl) 38 rfl ?_
      refine x_getS C lk_RX4_21 (hN.sh sh21) (hN.sr sr21_1) (dkAt dk_X4_parseBudget 20 rfl) 41 rfl ?_
      refine x_getS C lk_RX4_126 (hN.sh sh29) (hN.sr sr29_2) (dkAt dk_X4_parseBudget 21 rfl) 44 rfl ?_
      refine x_aload_n C rfl rfl (dkAt dk_X4_parseBudget 22 rfl) 45 rfl ?_
      refine x_getS C lk_RX4_12 (hN.sh sh21) (hN.sr sr21_0) (dkAt dk_X4_parseBudget 23 rfl) 48 rfl ?_
      refine x_getI C lk_RX4_123 (hN.sh sh22) (dkAt dk_X4_parseBudget 24 rfl) 51 rfl hf (fun v6 hf => ?_)
      refine x_aload_n C rfl rfl (dkAt dk_X4_parseBudget 25 rfl) 52 rfl ?_
      refine x_getI C lk_RX4_79 (hN.sh sh21) (dkAt dk_X4_parseBudget 26 rfl) 55 rfl hf (fun v7 hf => ?_)
      refine x_iast C (hN.sh sh32) (dkAt dk_X4_parseBudget 27 rfl) 56 rfl hf (fun M8 hf => ?_)
      refine x_aload_n C rfl rfl (dkAt dk_X4_parseBudget 28 rfl) 57 rfl ?_
      refine x_getS C lk_RX4_12 (hN.sh sh21) (hN.sr sr21_0) (dkAt dk_X4_parseBudget 29 rfl) 60 rfl ?_
      refine x_dup C rfl (dkAt dk_X4_parseBudget 30 rfl) 61 rfl ?_
      refine x_getI C lk_RX4_123 (hN.sh sh22) (dkAt dk_X4_parseBudget 31 rfl) 64 rfl hf (fun v9 hf => ?_)
      refine x_iconst C (v := (1 : Int32)) (by decide) (dkAt dk_X4_parseBudget 32 rfl) 65 rfl ?_
      refine x_iadd C (dkAt dk_X4_parseBudget 33 rfl) 66 rfl ?_
      refine x_putI C pk_RX4_123 ⟨_, rfl⟩ (hN.sh sh22) (dkAt dk_X4_parseBudget 34 rfl) 69 rfl hf (fun M10 hf => ?_)
      refine x_iconst C (v := (1 : Int32)) (by decide) (dkAt dk_X4_parseBudget 35 rfl) 70 rfl ?_
      exact x_zret C E (by decide) hf (by decide) (by decide) (dkAt dk_X4_parseBudget 36 rfl)
    · refine x_iconst C (v := (0 : Int32)) (by decide) (dkAt dk_X4_parseBudget 17 rfl) 36 rfl ?_
      exact x_zret C E (by decide) hf (by decide) (by decide) (dkAt dk_X4_parseBudget 18 rfl)
  · refine x_aload_n C rfl rfl (dkAt dk_X4_parseBudget 5 rfl) 12 rfl ?_
    refine x_iconst C (v := (4 : Int32)) (by decide) (dkAt dk_X4_parseBudget 6 rfl) 13 rfl ?_
    obtain ⟨v13, M14, h15, hf⟩ := cl_inv hf
    refine x_cVi C (c_X4_fail hN h15) mw_X4_fail ln_RX4_65 mi_X4_fail (hN.rc (ci := 4) sh21 rc4) (ro_of (by decide) (by decide) (by decide) (by decide)) rfl rfl (Nat.le_of_ble_eq_true rfl) (dkAt dk_X4_parseBudget 7 rfl) 16 rfl 0 0 rfl rfl ?_
    obtain ⟨hz, hf⟩ := if_some hf
    exact x_zret C E hz hf (by decide) (by decide) (dkAt dk_X4_parseBudget 8 rfl)
def f_X4_seeState (Z : Nat) (M : Mem)  : Option (Int32 × Mem) :=
  bd (gI M (22) 0) (fun v1 => cl (f_X4_seeNumber Z M (0 : Int32) (v1 - (1 : Int32))) (fun v2 M3 => (if v2 &&& 1 = v2 then some (v2, M3) else none)))
set_option maxRecDepth 100000 in
theorem c_X4_seeState {Γ : WC} (hN : HN Γ) {Z : Nat} {M : Mem}  {rM : Int32 × Mem}  (hf : f_X4_seeState Z M  = some rM) : Ct Γ yX4_seeState cX4_seeState 1 (some .boolean) (rmL 2 0 0) [.ref (wad Γ 21)] M (some (.int rM.1)) rM.2 := by
  refine mkN hN.1 (own := RX4) rfl (by decide) (Nat.le_of_ble_eq_true rfl) (fun X C E => ?_)
  change G Γ X M 0 0 [some (.ref (wad Γ 21))] [] 0
  unfold f_X4_seeState at hf
  refine x_aload_n C rfl rfl (dkAt dk_X4_seeState 0 rfl) 1 rfl ?_
  refine x_iconst C (v := (0 : Int32)) (by decide) (dkAt dk_X4_seeState 1 rfl) 2 rfl ?_
  refine x_aload_n C rfl rfl (dkAt dk_X4_seeState 2 rfl) 3 rfl ?_
  refine x_getS C lk_RX4_12 (hN.sh sh21) (hN.sr sr21_0) (dkAt dk_X4_seeState 3 rfl) 6 rfl ?_
  refine x_getI C lk_RX4_86 (hN.sh sh22) (dkAt dk_X4_seeState 4 rfl) 9 rfl hf (fun v1 hf => ?_)
  refine x_iconst C (v := (1 : Int32)) (by decide) (dkAt dk_X4_seeState 5 rfl) 10 rfl ?_
  refine x_isub C (dkAt dk_X4_seeState 6 rfl) 11 rfl ?_
  obtain ⟨v2, M3, h4, hf⟩ := cl_inv hf
  refine x_cVi C (c_X4_seeNumber hN h4) mw_X4_seeNumber ln_RX4_82 mi_X4_seeNumber (hN.rc (ci := 4) sh21 rc4) (ro_of (by decide) (by decide) (by decide) (by decide)) rfl rfl (Nat.le_of_ble_eq_true rfl) (dkAt dk_X4_seeState 7 rfl) 14 rfl 0 0 rfl rfl ?_
  obtain ⟨hz, hf⟩ := if_some hf
  exact x_zret C E hz hf (by decide) (by decide) (dkAt dk_X4_seeState 8 rfl)
def f_X4_parseGain (Z : Nat) (M : Mem) (p0 : Int32) : Option (Int32 × Mem) :=
  bd (gI M (1) 3) (fun v1 => jn (fun (t2 : Int32) => jn (fun (t3 : Mem) => cl (f_X4_takeNumber Z t3 (0 : Int32) (999 : Int32)) (fun v4 M5 => (if v4 = 0 then some ((0 : Int32), M5) else (if t2 = 0 then bd (gI M5 (21) 5) (fun v6 => wrI M5 24 18 p0 v6 (fun M7 => some ((1 : Int32), M7))) else bd (gI M5 (21) 5) (fun v8 => wrI M5 24 18 p0 (-v8) (fun M9 => some ((1 : Int32), M9))))))) (fun j11 => (if t2 = 0 then j11 M else cl (f_X2_advance Z M) (fun v12 M13 => j11 M13)))) (fun j15 => (if v1 = (3 : Int32) then j15 (1 : Int32) else j15 (0 : Int32))))
set_option maxRecDepth 100000 in
theorem c_X4_parseGain {Γ : WC} (hN : HN Γ) {Z : Nat} {M : Mem} {p0 : Int32} {rM : Int32 × Mem}  (hf : f_X4_parseGain Z M p0 = some rM) : Ct Γ yX4_parseGain cX4_parseGain 3 (some .boolean) (rmL 3 0 0) [.ref (wad Γ 21), .int p0] M (some (.int rM.1)) rM.2 := by
  refine mkN hN.1 (own := RX4) rfl (by decide) (Nat.le_of_ble_eq_true rfl) (fun X C E => ?_)
  change G Γ X M 0 0 [some (.ref (wad Γ 21)), some (.int p0)] [] 0
  unfold f_X4_parseGain at hf
  refine x_aload_n C rfl rfl (dkAt dk_X4_parseGain 0 rfl) 1 rfl ?_
  refine x_getS C lk_RX4_29 (hN.sh sh21) (hN.sr sr21_4) (dkAt dk_X4_parseGain 1 rfl) 4 rfl ?_
  refine x_getI C lk_RX4_53 (hN.sh sh1) (dkAt dk_X4_parseGain 2 rfl) 7 rfl hf (fun v1 hf => ?_)
  refine x_iconst C (v := (3 : Int32)) (by decide) (dkAt dk_X4_parseGain 3 rfl) 8 rfl ?_
  refine x_join hf (fun t2 => G Γ X M 0 0 [some (.ref (wad Γ 21)), some (.int p0)] [.int t2] 16) (fun t2 hf => ?_) (fun j15 hj15 hf => ?_)
  · refine x_istore_n C (L1 := [some (.ref (wad Γ 21)), some (.int p0), some (.int t2)]) (dkAt dk_X4_parseGain 8 rfl) 17 rfl rfl (by decide) rfl ?_
    refine x_iload_n C rfl rfl (dkAt dk_X4_parseGain 9 rfl) 18 rfl ?_
    refine x_join hf (fun t3 => G Γ X t3 0 0 [some (.ref (wad Γ 21)), some (.int p0), some (.int t2)] [] 28) (fun t3 hf => ?_) (fun j11 hj11 hf => ?_)
    · refine x_aload_n C rfl rfl (dkAt dk_X4_parseGain 14 rfl) 29 rfl ?_
      refine x_iconst C (v := (0 : Int32)) (by decide) (dkAt dk_X4_parseGain 15 rfl) 30 rfl ?_
      refine x_sipush C (v := (999 : Int32)) (by decide) (dkAt dk_X4_parseGain 16 rfl) 33 rfl ?_
      obtain ⟨v4, M5, h10, hf⟩ := cl_inv hf
      refine x_cVi C (c_X4_takeNumber hN h10) mw_X4_takeNumber ln_RX4_94 mi_X4_takeNumber (hN.rc (ci := 4) sh21 rc4) (ro_of (by decide) (by decide) (by decide) (by decide)) rfl rfl (Nat.le_of_ble_eq_true rfl) (dkAt dk_X4_parseGain 17 rfl) 36 rfl 0 0 rfl rfl ?_
      refine x_if_ne C 41 (dkAt dk_X4_parseGain 18 rfl) 39 rfl (by decide) hf (fun hf => ?_) (fun hf => ?_)
      · refine x_aload_n C rfl rfl (dkAt dk_X4_parseGain 21 rfl) 42 rfl ?_
        refine x_getS C lk_RX4_12 (hN.sh sh21) (hN.sr sr21_0) (dkAt dk_X4_parseGain 22 rfl) 45 rfl ?_
        refine x_getS C lk_RX4_153 (hN.sh sh22) (hN.sr sr22_3) (dkAt dk_X4_parseGain 23 rfl) 48 rfl ?_
        refine x_iload_n C rfl rfl (dkAt dk_X4_parseGain 24 rfl) 49 rfl ?_
        refine x_iload_n C rfl rfl (dkAt dk_X4_parseGain 25 rfl) 50 rfl ?_
        refine x_if_eq C 61 (dkAt dk_X4_parseGain 26 rfl) 53 rfl (by decide) hf (fun hf => ?_) (fun hf => ?_)
        · refine x_aload_n C rfl rfl (dkAt dk_X4_parseGain 31 rfl) 62 rfl ?_
          refine x_getI C lk_RX4_79 (hN.sh sh21) (dkAt dk_X4_parseGain 32 rfl) 65 rfl hf (fun v6 hf => ?_)
          refine x_iast C (hN.sh sh24) (dkAt dk_X4_parseGain 33 rfl) 66 rfl hf (fun M7 hf => ?_)
          refine x_iconst C (v := (1 : Int32)) (by decide) (dkAt dk_X4_parseGain 34 rfl) 67 rfl ?_
          exact x_zret C E (by decide) hf (by decide) (by decide) (dkAt dk_X4_parseGain 35 rfl)
        · refine x_aload_n C rfl rfl (dkAt dk_X4_parseGain 27 rfl) 54 rfl ?_
          refine x_getI C lk_RX4_79 (hN.sh sh21) (dkAt dk_X4_parseGain 28 rfl) 57 rfl hf (fun v8 hf => ?_)
          refine x_ineg C (dkAt dk_X4_parseGain 29 rfl) 58 rfl ?_
          refine x_goto C 65 (dkAt dk_X4_parseGain 30 rfl) (by decide) ?_
          refine x_iast C (hN.sh sh24) (dkAt dk_X4_parseGain 33 rfl) 66 rfl hf (fun M9 hf => ?_)
          refine x_iconst C (v := (1 : Int32)) (by decide) (dkAt dk_X4_parseGain 34 rfl) 67 rfl ?_
          exact x_zret C E (by decide) hf (by decide) (by decide) (dkAt dk_X4_parseGain 35 rfl)
      · refine x_iconst C (v := (0 : Int32)) (by decide) (dkAt dk_X4_parseGain 19 rfl) 40 rfl ?_
        exact x_zret C E (by decide) hf (by decide) (by decide) (dkAt dk_X4_parseGain 20 rfl)
    · refine x_if_eq C 28 (dkAt dk_X4_parseGain 10 rfl) 21 rfl (by decide) hf (fun hf => ?_) (fun hf => ?_)
      · exact G.weak (L := [some (.ref (wad Γ 21)), some (.int p0), some (.int t2)]) ⟨rfl, rfl, rfl, trivial⟩ (hj11 _ hf)
      · refine x_aload_n C rfl rfl (dkAt dk_X4_parseGain 11 rfl) 22 rfl ?_
        refine x_getS C lk_RX4_29 (hN.sh sh21) (hN.sr sr21_4) (dkAt dk_X4_parseGain 12 rfl) 25 rfl ?_
        obtain ⟨v12, M13, h14, hf⟩ := cl_inv hf
        refine x_cVv C (c_X2_advance hN h14) mw_X2_advance ln_RX4_56 mi_X2_advance (hN.rc (ci := 2) sh1 rc2) (ro_of (by decide) (by decide) (by decide) (by decide)) rfl rfl (Nat.le_of_ble_eq_true rfl) (dkAt dk_X4_parseGain 13 rfl) 28 rfl 0 0 rfl rfl ?_
        exact G.weak (L := [some (.ref (wad Γ 21)), some (.int p0), some (.int t2)]) ⟨rfl, rfl, rfl, trivial⟩ (hj11 _ hf)
  · refine x_icmp_ne C 15 (dkAt dk_X4_parseGain 4 rfl) 11 rfl (by decide) hf (fun hf => ?_) (fun hf => ?_)
    · refine x_iconst C (v := (0 : Int32)) (by decide) (dkAt dk_X4_parseGain 7 rfl) 16 rfl ?_
      exact G.weak (L := [some (.ref (wad Γ 21)), some (.int p0)]) ⟨rfl, rfl, trivial⟩ (hj15 _ hf)
    · refine x_iconst C (v := (1 : Int32)) (by decide) (dkAt dk_X4_parseGain 5 rfl) 12 rfl ?_
      refine x_goto C 16 (dkAt dk_X4_parseGain 6 rfl) (by decide) ?_
      exact G.weak (L := [some (.ref (wad Γ 21)), some (.int p0)]) ⟨rfl, rfl, trivial⟩ (hj15 _ hf)
def f_X4_parseUses_L2 (Z : Nat) (p0 : Int32) (k : Mem → Option (Int32 × Mem)) : Nat → Int32 → Mem → Option (Int32 × Mem)
  | 0, _, _ => none
  | n + 1, x1, M2 => (if (3 : Int32) < x1 then some ((1 : Int32), M2) else cl (f_X2_isWord Z M2 6) (fun v3 M4 => (if v3 = 0 then some ((1 : Int32), M4) else cl (f_X2_advance Z M4) (fun v5 M6 => bd (gI M6 (22) 1) (fun v7 => cl (f_X4_seeNumber Z M6 (0 : Int32) (v7 - (1 : Int32))) (fun v8 M9 => (if v8 = 0 then some ((0 : Int32), M9) else bd (gI M9 (21) 5) (fun v10 => cl (f_X0_amountOf Z M9 (22) p0 v10) (fun v11 M12 => (if v11 = 0 then cl (f_X2_advance Z M12) (fun v13 M14 => cl (f_X4_takeNumber Z M14 (1 : Int32) (99 : Int32)) (fun v15 M16 => (if v15 = 0 then some ((0 : Int32), M16) else bd (gI M16 (21) 5) (fun v17 => wrI M16 25 54 ((p0 * (3 : Int32)) + v10) v17 (fun M18 => f_X4_parseUses_L2 Z p0 k n (x1 + (1 : Int32)) M18))))) else k M12))))))))))
def f_X4_parseUses (Z : Nat) (M : Mem) (p0 : Int32) : Option (Int32 × Mem) :=
  f_X4_parseUses_L2 Z p0 (fun (M25 : Mem) => cl (f_X4_fail Z M25 (3 : Int32)) (fun v26 M27 => (if v26 &&& 1 = v26 then some (v26, M27) else none))) Z (0 : Int32) M
set_option maxRecDepth 100000 in
theorem l_X4_parseUses_L2 {Γ : WC} {X : MX} (hN : HN Γ) (C : CX Γ X cX4_parseUses 4 RX4 (some .boolean) (rmL 7 0 0)) {rM : Int32 × Mem} (E : EndN Γ X (some (.int rM.1)) rM.2 0 0) {Z : Nat} {p0 : Int32} {k : Mem → Option (Int32 × Mem)} (hk : ∀  (Mx : Mem), k Mx = some rM → G Γ X Mx 0 0 [some (.ref (wad Γ 21))] [] 62) : ∀ (n : Nat) (x1 : Int32) (M2 : Mem), f_X4_parseUses_L2 Z p0 k n x1 M2 = some rM → G Γ X M2 0 0 [some (.ref (wad Γ 21)), some (.int p0), some (.int x1)] [] 2 := by
  intro n
  induction n with
  | zero =>
    intro x1 M2 hf
    have hf0 : (none : Option _) = some rM := hf
    cases hf0
  | succ n ih =>
    intro x1 M2 hf
    rw [f_X4_parseUses_L2] at hf
    refine x_iload_n C rfl rfl (dkAt dk_X4_parseUses 2 rfl) 3 rfl ?_
    refine x_iconst C (v := (3 : Int32)) (by decide) (dkAt dk_X4_parseUses 3 rfl) 4 rfl ?_
    refine x_icmp_gt C 110 (dkAt dk_X4_parseUses 4 rfl) 7 rfl (by decide) hf (fun hf => ?_) (fun hf => ?_)
    · refine x_iconst C (v := (1 : Int32)) (by decide) (dkAt dk_X4_parseUses 60 rfl) 111 rfl ?_
      exact x_zret C E (by decide) hf (by decide) (by decide) (dkAt dk_X4_parseUses 61 rfl)
    · refine x_aload_n C rfl rfl (dkAt dk_X4_parseUses 5 rfl) 8 rfl ?_
      refine x_getS C lk_RX4_29 (hN.sh sh21) (hN.sr sr21_4) (dkAt dk_X4_parseUses 6 rfl) 11 rfl ?_
      refine x_ldcS C (hN.st (i := 18) rfl) (dkAt dk_X4_parseUses 7 rfl) 13 rfl ?_
      obtain ⟨v3, M4, h24, hf⟩ := cl_inv hf
      refine x_cVi C (c_X2_isWord hN (by decide) h24) mw_X2_isWord ln_RX4_72 mi_X2_isWord (hN.rc (ci := 2) sh1 rc2) (ro_of (by decide) (by decide) (by decide) (by decide)) rfl rfl (Nat.le_of_ble_eq_true rfl) (dkAt dk_X4_parseUses 8 rfl) 16 rfl 0 0 rfl rfl ?_
      refine x_if_eq C 110 (dkAt dk_X4_parseUses 9 rfl) 19 rfl (by decide) hf (fun hf => ?_) (fun hf => ?_)
      · refine x_iconst C (v := (1 : Int32)) (by decide) (dkAt dk_X4_parseUses 60 rfl) 111 rfl ?_
        exact x_zret C E (by decide) hf (by decide) (by decide) (dkAt dk_X4_parseUses 61 rfl)
      · refine x_aload_n C rfl rfl (dkAt dk_X4_parseUses 10 rfl) 20 rfl ?_
        refine x_getS C lk_RX4_29 (hN.sh sh21) (hN.sr sr21_4) (dkAt dk_X4_parseUses 11 rfl) 23 rfl ?_
        obtain ⟨v5, M6, h23, hf⟩ := cl_inv hf
        refine x_cVv C (c_X2_advance hN h23) mw_X2_advance ln_RX4_56 mi_X2_advance (hN.rc (ci := 2) sh1 rc2) (ro_of (by decide) (by decide) (by decide) (by decide)) rfl rfl (Nat.le_of_ble_eq_true rfl) (dkAt dk_X4_parseUses 12 rfl) 26 rfl 0 0 rfl rfl ?_
        refine x_aload_n C rfl rfl (dkAt dk_X4_parseUses 13 rfl) 27 rfl ?_
        refine x_iconst C (v := (0 : Int32)) (by decide) (dkAt dk_X4_parseUses 14 rfl) 28 rfl ?_
        refine x_aload_n C rfl rfl (dkAt dk_X4_parseUses 15 rfl) 29 rfl ?_
        refine x_getS C lk_RX4_12 (hN.sh sh21) (hN.sr sr21_0) (dkAt dk_X4_parseUses 16 rfl) 32 rfl ?_
        refine x_getI C lk_RX4_123 (hN.sh sh22) (dkAt dk_X4_parseUses 17 rfl) 35 rfl hf (fun v7 hf => ?_)
        refine x_iconst C (v := (1 : Int32)) (by decide) (dkAt dk_X4_parseUses 18 rfl) 36 rfl ?_
        refine x_isub C (dkAt dk_X4_parseUses 19 rfl) 37 rfl ?_
        obtain ⟨v8, M9, h22, hf⟩ := cl_inv hf
        refine x_cVi C (c_X4_seeNumber hN h22) mw_X4_seeNumber ln_RX4_82 mi_X4_seeNumber (hN.rc (ci := 4) sh21 rc4) (ro_of (by decide) (by decide) (by decide) (by decide)) rfl rfl (Nat.le_of_ble_eq_true rfl) (dkAt dk_X4_parseUses 20 rfl) 40 rfl 0 0 rfl rfl ?_
        refine x_if_ne C 45 (dkAt dk_X4_parseUses 21 rfl) 43 rfl (by decide) hf (fun hf => ?_) (fun hf => ?_)
        · refine x_aload_n C rfl rfl (dkAt dk_X4_parseUses 24 rfl) 46 rfl ?_
          refine x_getI C lk_RX4_79 (hN.sh sh21) (dkAt dk_X4_parseUses 25 rfl) 49 rfl hf (fun v10 hf => ?_)
          refine x_istore_n C (L1 := [some (.ref (wad Γ 21)), some (.int p0), some (.int x1), some (.int v10)]) (dkAt dk_X4_parseUses 26 rfl) 50 rfl rfl (by decide) rfl ?_
          refine x_aload_n C rfl rfl (dkAt dk_X4_parseUses 27 rfl) 51 rfl ?_
          refine x_getS C lk_RX4_12 (hN.sh sh21) (hN.sr sr21_0) (dkAt dk_X4_parseUses 28 rfl) 54 rfl ?_
          refine x_iload_n C rfl rfl (dkAt dk_X4_parseUses 29 rfl) 55 rfl ?_
          refine x_iload_n C rfl rfl (dkAt dk_X4_parseUses 30 rfl) 56 rfl ?_
          obtain ⟨v11, M12, h21, hf⟩ := cl_inv hf
          refine x_cVi C (c_X0_amountOf hN sh22 h21) mw_X0_amountOf ln_RX4_158 mi_X0_amountOf (hN.rc (ci := 0) sh22 rc0) (ro_of (by decide) (by decide) (by decide) (by decide)) rfl rfl (Nat.le_of_ble_eq_true rfl) (dkAt dk_X4_parseUses 31 rfl) 59 rfl 0 0 rfl rfl ?_
          refine x_if_eq C 68 (dkAt dk_X4_parseUses 32 rfl) 62 rfl (by decide) hf (fun hf => ?_) (fun hf => ?_)
          · refine x_aload_n C rfl rfl (dkAt dk_X4_parseUses 37 rfl) 69 rfl ?_
            refine x_getS C lk_RX4_29 (hN.sh sh21) (hN.sr sr21_4) (dkAt dk_X4_parseUses 38 rfl) 72 rfl ?_
            obtain ⟨v13, M14, h20, hf⟩ := cl_inv hf
            refine x_cVv C (c_X2_advance hN h20) mw_X2_advance ln_RX4_56 mi_X2_advance (hN.rc (ci := 2) sh1 rc2) (ro_of (by decide) (by decide) (by decide) (by decide)) rfl rfl (Nat.le_of_ble_eq_true rfl) (dkAt dk_X4_parseUses 39 rfl) 75 rfl 0 0 rfl rfl ?_
            refine x_aload_n C rfl rfl (dkAt dk_X4_parseUses 40 rfl) 76 rfl ?_
            refine x_iconst C (v := (1 : Int32)) (by decide) (dkAt dk_X4_parseUses 41 rfl) 77 rfl ?_
            refine x_bipush C (v := (99 : Int32)) (by decide) (dkAt dk_X4_parseUses 42 rfl) 79 rfl ?_
            obtain ⟨v15, M16, h19, hf⟩ := cl_inv hf
            refine x_cVi C (c_X4_takeNumber hN h19) mw_X4_takeNumber ln_RX4_94 mi_X4_takeNumber (hN.rc (ci := 4) sh21 rc4) (ro_of (by decide) (by decide) (by decide) (by decide)) rfl rfl (Nat.le_of_ble_eq_true rfl) (dkAt dk_X4_parseUses 43 rfl) 82 rfl 0 0 rfl rfl ?_
            refine x_if_ne C 87 (dkAt dk_X4_parseUses 44 rfl) 85 rfl (by decide) hf (fun hf => ?_) (fun hf => ?_)
            · refine x_aload_n C rfl rfl (dkAt dk_X4_parseUses 47 rfl) 88 rfl ?_
              refine x_getS C lk_RX4_12 (hN.sh sh21) (hN.sr sr21_0) (dkAt dk_X4_parseUses 48 rfl) 91 rfl ?_
              refine x_getS C lk_RX4_161 (hN.sh sh22) (hN.sr sr22_4) (dkAt dk_X4_parseUses 49 rfl) 94 rfl ?_
              refine x_iload_n C rfl rfl (dkAt dk_X4_parseUses 50 rfl) 95 rfl ?_
              refine x_iconst C (v := (3 : Int32)) (by decide) (dkAt dk_X4_parseUses 51 rfl) 96 rfl ?_
              refine x_imul C (dkAt dk_X4_parseUses 52 rfl) 97 rfl ?_
              refine x_iload_n C rfl rfl (dkAt dk_X4_parseUses 53 rfl) 98 rfl ?_
              refine x_iadd C (dkAt dk_X4_parseUses 54 rfl) 99 rfl ?_
              refine x_aload_n C rfl rfl (dkAt dk_X4_parseUses 55 rfl) 100 rfl ?_
              refine x_getI C lk_RX4_79 (hN.sh sh21) (dkAt dk_X4_parseUses 56 rfl) 103 rfl hf (fun v17 hf => ?_)
              refine x_iast C (hN.sh sh25) (dkAt dk_X4_parseUses 57 rfl) 104 rfl hf (fun M18 hf => ?_)
              refine x_iinc C (v := (x1 + (1 : Int32))) (L1 := [some (.ref (wad Γ 21)), some (.int p0), some (.int (x1 + (1 : Int32))), some (.int v10)]) (dkAt dk_X4_parseUses 58 rfl) 107 rfl rfl rfl (by decide) rfl ?_
              refine x_goto C 2 (dkAt dk_X4_parseUses 59 rfl) (by decide) ?_
              exact G.weak (L := [some (.ref (wad Γ 21)), some (.int p0), some (.int (x1 + (1 : Int32)))]) ⟨rfl, rfl, rfl, trivial⟩ (ih _ _ hf)
            · refine x_iconst C (v := (0 : Int32)) (by decide) (dkAt dk_X4_parseUses 45 rfl) 86 rfl ?_
              exact x_zret C E (by decide) hf (by decide) (by decide) (dkAt dk_X4_parseUses 46 rfl)
          · exact G.weak (L := [some (.ref (wad Γ 21))]) ⟨rfl, trivial⟩ (hk _ hf)
        · refine x_iconst C (v := (0 : Int32)) (by decide) (dkAt dk_X4_parseUses 22 rfl) 44 rfl ?_
          exact x_zret C E (by decide) hf (by decide) (by decide) (dkAt dk_X4_parseUses 23 rfl)
set_option maxRecDepth 100000 in
theorem c_X4_parseUses {Γ : WC} (hN : HN Γ) {Z : Nat} {M : Mem} {p0 : Int32} {rM : Int32 × Mem}  (hf : f_X4_parseUses Z M p0 = some rM) : Ct Γ yX4_parseUses cX4_parseUses 4 (some .boolean) (rmL 7 0 0) [.ref (wad Γ 21), .int p0] M (some (.int rM.1)) rM.2 := by
  refine mkN hN.1 (own := RX4) rfl (by decide) (Nat.le_of_ble_eq_true rfl) (fun X C E => ?_)
  change G Γ X M 0 0 [some (.ref (wad Γ 21)), some (.int p0)] [] 0
  unfold f_X4_parseUses at hf
  refine x_iconst C (v := (0 : Int32)) (by decide) (dkAt dk_X4_parseUses 0 rfl) 1 rfl ?_
  refine x_istore_n C (L1 := [some (.ref (wad Γ 21)), some (.int p0), some (.int (0 : Int32))]) (dkAt dk_X4_parseUses 1 rfl) 2 rfl rfl (by decide) rfl ?_
  refine G.weak (L := [some (.ref (wad Γ 21)), some (.int p0), some (.int (0 : Int32))]) ⟨rfl, rfl, rfl, trivial⟩ ?_
  refine l_X4_parseUses_L2 hN C E ?_ Z _ _ hf
  intro M25 hf
  refine x_aload_n C rfl rfl (dkAt dk_X4_parseUses 33 rfl) 63 rfl ?_
  refine x_iconst C (v := (3 : Int32)) (by decide) (dkAt dk_X4_parseUses 34 rfl) 64 rfl ?_
  obtain ⟨v26, M27, h28, hf⟩ := cl_inv hf
  refine x_cVi C (c_X4_fail hN h28) mw_X4_fail ln_RX4_65 mi_X4_fail (hN.rc (ci := 4) sh21 rc4) (ro_of (by decide) (by decide) (by decide) (by decide)) rfl rfl (Nat.le_of_ble_eq_true rfl) (dkAt dk_X4_parseUses 35 rfl) 67 rfl 0 0 rfl rfl ?_
  obtain ⟨hz, hf⟩ := if_some hf
  exact x_zret C E hz hf (by decide) (by decide) (dkAt dk_X4_parseUses 36 rfl)
def f_X4_endLine (Z : Nat) (M : Mem) (p0 : Int32) : Option (Int32 × Mem) :=
  bd (gI M (1) 3) (fun v1 => jn (fun (t2 : Unit) => (if p0 = 0 then some ((1 : Int32), M) else cl (f_X4_fail Z M (5 : Int32)) (fun v3 M4 => (if v3 = 0 then some ((0 : Int32), M4) else some ((1 : Int32), M4))))) (fun j6 => (if v1 = (4 : Int32) then j6 () else bd (gI M (1) 3) (fun v7 => (if v7 = 0 then j6 () else cl (f_X4_fail Z M (1 : Int32)) (fun v8 M9 => (if v8 &&& 1 = v8 then some (v8, M9) else none)))))))
set_option maxRecDepth 100000 in
theorem c_X4_endLine {Γ : WC} (hN : HN Γ) {Z : Nat} {M : Mem} {p0 : Int32} {rM : Int32 × Mem}  (hf : f_X4_endLine Z M p0 = some rM) : Ct Γ yX4_endLine cX4_endLine 2 (some .boolean) (rmL 1 0 0) [.ref (wad Γ 21), .int p0] M (some (.int rM.1)) rM.2 := by
  refine mkN hN.1 (own := RX4) rfl (by decide) (Nat.le_of_ble_eq_true rfl) (fun X C E => ?_)
  change G Γ X M 0 0 [some (.ref (wad Γ 21)), some (.int p0)] [] 0
  unfold f_X4_endLine at hf
  refine x_aload_n C rfl rfl (dkAt dk_X4_endLine 0 rfl) 1 rfl ?_
  refine x_getS C lk_RX4_29 (hN.sh sh21) (hN.sr sr21_4) (dkAt dk_X4_endLine 1 rfl) 4 rfl ?_
  refine x_getI C lk_RX4_53 (hN.sh sh1) (dkAt dk_X4_endLine 2 rfl) 7 rfl hf (fun v1 hf => ?_)
  refine x_iconst C (v := (4 : Int32)) (by decide) (dkAt dk_X4_endLine 3 rfl) 8 rfl ?_
  refine x_join hf (fun t2 => G Γ X M 0 0 [some (.ref (wad Γ 21)), some (.int p0)] [] 27) (fun t2 hf => ?_) (fun j6 hj6 hf => ?_)
  · refine x_iload_n C rfl rfl (dkAt dk_X4_endLine 13 rfl) 28 rfl ?_
    refine x_if_eq C 39 (dkAt dk_X4_endLine 14 rfl) 31 rfl (by decide) hf (fun hf => ?_) (fun hf => ?_)
    · refine x_iconst C (v := (1 : Int32)) (by decide) (dkAt dk_X4_endLine 19 rfl) 40 rfl ?_
      refine x_goto C 44 (dkAt dk_X4_endLine 20 rfl) (by decide) ?_
      exact x_zret C E (by decide) hf (by decide) (by decide) (dkAt dk_X4_endLine 22 rfl)
    · refine x_aload_n C rfl rfl (dkAt dk_X4_endLine 15 rfl) 32 rfl ?_
      refine x_iconst C (v := (5 : Int32)) (by decide) (dkAt dk_X4_endLine 16 rfl) 33 rfl ?_
      obtain ⟨v3, M4, h5, hf⟩ := cl_inv hf
      refine x_cVi C (c_X4_fail hN h5) mw_X4_fail ln_RX4_65 mi_X4_fail (hN.rc (ci := 4) sh21 rc4) (ro_of (by decide) (by decide) (by decide) (by decide)) rfl rfl (Nat.le_of_ble_eq_true rfl) (dkAt dk_X4_endLine 17 rfl) 36 rfl 0 0 rfl rfl ?_
      refine x_if_eq C 43 (dkAt dk_X4_endLine 18 rfl) 39 rfl (by decide) hf (fun hf => ?_) (fun hf => ?_)
      · refine x_iconst C (v := (0 : Int32)) (by decide) (dkAt dk_X4_endLine 21 rfl) 44 rfl ?_
        exact x_zret C E (by decide) hf (by decide) (by decide) (dkAt dk_X4_endLine 22 rfl)
      · refine x_iconst C (v := (1 : Int32)) (by decide) (dkAt dk_X4_endLine 19 rfl) 40 rfl ?_
        refine x_goto C 44 (dkAt dk_X4_endLine 20 rfl) (by decide) ?_
        exact x_zret C E (by decide) hf (by decide) (by decide) (dkAt dk_X4_endLine 22 rfl)
  · refine x_icmp_eq C 27 (dkAt dk_X4_endLine 4 rfl) 11 rfl (by decide) hf (fun hf => ?_) (fun hf => ?_)
    · exact G.weak (L := [some (.ref (wad Γ 21)), some (.int p0)]) ⟨rfl, rfl, trivial⟩ (hj6 _ hf)
    · refine x_aload_n C rfl rfl (dkAt dk_X4_endLine 5 rfl) 12 rfl ?_
      refine x_getS C lk_RX4_29 (hN.sh sh21) (hN.sr sr21_4) (dkAt dk_X4_endLine 6 rfl) 15 rfl ?_
      refine x_getI C lk_RX4_53 (hN.sh sh1) (dkAt dk_X4_endLine 7 rfl) 18 rfl hf (fun v7 hf => ?_)
      refine x_if_eq C 27 (dkAt dk_X4_endLine 8 rfl) 21 rfl (by decide) hf (fun hf => ?_) (fun hf => ?_)
      · exact G.weak (L := [some (.ref (wad Γ 21)), some (.int p0)]) ⟨rfl, rfl, trivial⟩ (hj6 _ hf)
      · refine x_aload_n C rfl rfl (dkAt dk_X4_endLine 9 rfl) 22 rfl ?_
        refine x_iconst C (v := (1 : Int32)) (by decide) (dkAt dk_X4_endLine 10 rfl) 23 rfl ?_
        obtain ⟨v8, M9, h10, hf⟩ := cl_inv hf
        refine x_cVi C (c_X4_fail hN h10) mw_X4_fail ln_RX4_65 mi_X4_fail (hN.rc (ci := 4) sh21 rc4) (ro_of (by decide) (by decide) (by decide) (by decide)) rfl rfl (Nat.le_of_ble_eq_true rfl) (dkAt dk_X4_endLine 11 rfl) 26 rfl 0 0 rfl rfl ?_
        obtain ⟨hz, hf⟩ := if_some hf
        exact x_zret C E hz hf (by decide) (by decide) (dkAt dk_X4_endLine 12 rfl)
