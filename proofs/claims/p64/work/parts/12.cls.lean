def f_X11_firstTime_L11 (Z : Nat) (p0 : Int32) : Nat → Int32 → Mem → Option (Except Nat Int32 × Mem)
  | 0, _, _ => none
  | n + 1, x5, M6 => bd (gI M6 (10) 4) (fun v7 => (if v7 < x5 then some (.ok (-1 : Int32), M6) else cl (f_X1_at Z M6 p0 x5) (fun v8 M9 => (if v8 ≤ (0 : Int64) then f_X11_firstTime_L11 Z p0 n (x5 + (1 : Int32)) M9 else some (.ok x5, M9)))))
def f_X11_firstTime (Z : Nat) (M : Mem) (p0 : Int32) : Option (Except Nat Int32 × Mem) :=
  clT (f_X11_needState Z M p0) (fun v1 M2 => cl (f_X11_followRules Z M2) (fun v3 M4 => f_X11_firstTime_L11 Z p0 Z (0 : Int32) M4)) pr
set_option maxRecDepth 100000 in
theorem l_X11_firstTime_L11 {Γ : WC} {X : MX} (hN : HN Γ) (C : CX Γ X cX11_firstTime 3 RX11 (some .int) (rmL 8 2 12)) {rM : Except Nat Int32 × Mem} (E : EndT Γ X (fun v => some (.int v)) rM 2 12) {Z : Nat} {p0 : Int32} : ∀ (n : Nat) (x5 : Int32) (M6 : Mem), f_X11_firstTime_L11 Z p0 n x5 M6 = some rM → G Γ X M6 2 12 [some (.ref (wad Γ 0)), some (.int p0), some (.int x5)] [] 11 := by
  intro n
  induction n with
  | zero =>
    intro x5 M6 hf
    have hf0 : (none : Option _) = some rM := hf
    cases hf0
  | succ n ih =>
    intro x5 M6 hf
    rw [f_X11_firstTime_L11] at hf
    refine x_iload_n C rfl rfl (dkAt dk_X11_firstTime 7 rfl) 12 rfl ?_
    refine x_aload_n C rfl rfl (dkAt dk_X11_firstTime 8 rfl) 13 rfl ?_
    refine x_getS C lk_RX11_42 (hN.sh sh0) (hN.sr sr0_3) (dkAt dk_X11_firstTime 9 rfl) 16 rfl ?_
    refine x_getI C lk_RX11_157 (hN.sh sh10) (dkAt dk_X11_firstTime 10 rfl) 19 rfl hf (fun v7 hf => ?_)
    refine x_icmp_gt C 44 (dkAt dk_X11_firstTime 11 rfl) 22 rfl (by decide) hf (fun hf => ?_) (fun hf => ?_)
    · refine x_iconst C (v := (-1 : Int32)) (by decide) (dkAt dk_X11_firstTime 24 rfl) 45 rfl ?_
      exact t_iret C E hf (by decide) (by decide) (dkAt dk_X11_firstTime 25 rfl)
    · refine x_aload_n C rfl rfl (dkAt dk_X11_firstTime 12 rfl) 23 rfl ?_
      refine x_getS C lk_RX11_53 (hN.sh sh0) (hN.sr sr0_5) (dkAt dk_X11_firstTime 13 rfl) 26 rfl ?_
      refine x_iload_n C rfl rfl (dkAt dk_X11_firstTime 14 rfl) 27 rfl ?_
      refine x_iload_n C rfl rfl (dkAt dk_X11_firstTime 15 rfl) 28 rfl ?_
      obtain ⟨v8, M9, h10, hf⟩ := cl_inv hf
      refine x_cVl C (c_X1_at hN h10) mw_X1_at ln_RX11_208 mi_X1_at (hN.rc (ci := 1) sh16 rc1) (ro_of (by decide) (by decide) (by decide) (by decide)) rfl rfl (Nat.le_of_ble_eq_true rfl) (dkAt dk_X11_firstTime 16 rfl) 31 rfl 2 12 rfl rfl ?_
      refine x_lconst C (v := (0 : Int64)) (by decide) (dkAt dk_X11_firstTime 17 rfl) 32 rfl ?_
      refine x_lcmp_le C 38 (dkAt dk_X11_firstTime 18 rfl) 36 rfl (dkAt dk_X11_firstTime 19 rfl) (by decide) hf (fun hf => ?_) (fun hf => ?_)
      · refine x_iinc C (v := (x5 + (1 : Int32))) (L1 := [some (.ref (wad Γ 0)), some (.int p0), some (.int (x5 + (1 : Int32)))]) (dkAt dk_X11_firstTime 22 rfl) 41 rfl rfl rfl (by decide) rfl ?_
        refine x_goto C 11 (dkAt dk_X11_firstTime 23 rfl) (by decide) ?_
        exact G.weak (L := [some (.ref (wad Γ 0)), some (.int p0), some (.int (x5 + (1 : Int32)))]) ⟨rfl, rfl, rfl, trivial⟩ (ih _ _ hf)
      · refine x_iload_n C rfl rfl (dkAt dk_X11_firstTime 20 rfl) 37 rfl ?_
        exact t_iret C E hf (by decide) (by decide) (dkAt dk_X11_firstTime 21 rfl)
set_option maxRecDepth 100000 in
theorem c_X11_firstTime {Γ : WC} (hN : HN Γ) {Z : Nat} {M : Mem} {p0 : Int32} {rM : Except Nat Int32 × Mem}  (hf : f_X11_firstTime Z M p0 = some rM) : CtT Γ yX11_firstTime cX11_firstTime 3 (some .int) (rmL 8 2 12) [.ref (wad Γ 0), .int p0] M (fun v => some (.int v)) rM := by
  refine mkT hN.1 (own := RX11) rfl (by decide) (Nat.le_of_ble_eq_true rfl) (fun X C E => ?_)
  change G Γ X M 0 0 [some (.ref (wad Γ 0)), some (.int p0)] [] 0
  unfold f_X11_firstTime at hf
  refine x_aload_n C rfl rfl (dkAt dk_X11_firstTime 0 rfl) 1 rfl ?_
  refine x_iload_n C rfl rfl (dkAt dk_X11_firstTime 1 rfl) 2 rfl ?_
  refine t_cVv C E hf (fun r hr => c_X11_needState hN hr) mw_X11_needState ln_RX11_166 mi_X11_needState (hN.rc (ci := 11) sh0 rc11) (ro_of (by decide) (by decide) (by decide) (by decide)) rfl rfl (Nat.le_of_ble_eq_true rfl) (dkAt dk_X11_firstTime 2 rfl) 5 rfl 2 12 rfl rfl (by decide) (by decide) (fun v1 M2 hf => ?_)
  refine x_aload_n C rfl rfl (dkAt dk_X11_firstTime 3 rfl) 6 rfl ?_
  obtain ⟨v3, M4, h11, hf⟩ := cl_inv hf
  refine x_cVv C (c_X11_followRules hN h11) mw_X11_followRules ln_RX11_205 mi_X11_followRules (hN.rc (ci := 11) sh0 rc11) (ro_of (by decide) (by decide) (by decide) (by decide)) rfl rfl (Nat.le_of_ble_eq_true rfl) (dkAt dk_X11_firstTime 4 rfl) 9 rfl 2 12 rfl rfl ?_
  refine x_iconst C (v := (0 : Int32)) (by decide) (dkAt dk_X11_firstTime 5 rfl) 10 rfl ?_
  refine x_istore_n C (L1 := [some (.ref (wad Γ 0)), some (.int p0), some (.int (0 : Int32))]) (dkAt dk_X11_firstTime 6 rfl) 11 rfl rfl (by decide) rfl ?_
  refine G.weak (L := [some (.ref (wad Γ 0)), some (.int p0), some (.int (0 : Int32))]) ⟨rfl, rfl, rfl, trivial⟩ ?_
  refine l_X11_firstTime_L11 hN C E Z _ _ hf
def f_X11_busiest_L11 (Z : Nat) (p0 : Int32) : Nat → Int32 → Mem → Option (Except Nat Int32 × Mem)
  | 0, _, _ => none
  | n + 1, x5, M6 => bd (gI M6 (3) 0) (fun v7 => (if v7 ≤ x5 then some (.ok (-1 : Int32), M6) else cl (f_X1_rankOf Z M6 x5) (fun v8 M9 => (if v8 = p0 then some (.ok x5, M9) else f_X11_busiest_L11 Z p0 n (x5 + (1 : Int32)) M9))))
def f_X11_busiest (Z : Nat) (M : Mem) (p0 : Int32) : Option (Except Nat Int32 × Mem) :=
  clT (f_X11_needState Z M p0) (fun v1 M2 => cl (f_X11_followRules Z M2) (fun v3 M4 => f_X11_busiest_L11 Z p0 Z (0 : Int32) M4)) pr
set_option maxRecDepth 100000 in
theorem l_X11_busiest_L11 {Γ : WC} {X : MX} (hN : HN Γ) (C : CX Γ X cX11_busiest 3 RX11 (some .int) (rmL 8 2 12)) {rM : Except Nat Int32 × Mem} (E : EndT Γ X (fun v => some (.int v)) rM 2 12) {Z : Nat} {p0 : Int32} : ∀ (n : Nat) (x5 : Int32) (M6 : Mem), f_X11_busiest_L11 Z p0 n x5 M6 = some rM → G Γ X M6 2 12 [some (.ref (wad Γ 0)), some (.int p0), some (.int x5)] [] 11 := by
  intro n
  induction n with
  | zero =>
    intro x5 M6 hf
    have hf0 : (none : Option _) = some rM := hf
    cases hf0
  | succ n ih =>
    intro x5 M6 hf
    rw [f_X11_busiest_L11] at hf
    refine x_iload_n C rfl rfl (dkAt dk_X11_busiest 7 rfl) 12 rfl ?_
    refine x_aload_n C rfl rfl (dkAt dk_X11_busiest 8 rfl) 13 rfl ?_
    refine x_getS C lk_RX11_38 (hN.sh sh0) (hN.sr sr0_2) (dkAt dk_X11_busiest 9 rfl) 16 rfl ?_
    refine x_getI C lk_RX11_151 (hN.sh sh3) (dkAt dk_X11_busiest 10 rfl) 19 rfl hf (fun v7 hf => ?_)
    refine x_icmp_ge C 42 (dkAt dk_X11_busiest 11 rfl) 22 rfl (by decide) hf (fun hf => ?_) (fun hf => ?_)
    · refine x_iconst C (v := (-1 : Int32)) (by decide) (dkAt dk_X11_busiest 22 rfl) 43 rfl ?_
      exact t_iret C E hf (by decide) (by decide) (dkAt dk_X11_busiest 23 rfl)
    · refine x_aload_n C rfl rfl (dkAt dk_X11_busiest 12 rfl) 23 rfl ?_
      refine x_getS C lk_RX11_53 (hN.sh sh0) (hN.sr sr0_5) (dkAt dk_X11_busiest 13 rfl) 26 rfl ?_
      refine x_iload_n C rfl rfl (dkAt dk_X11_busiest 14 rfl) 27 rfl ?_
      obtain ⟨v8, M9, h10, hf⟩ := cl_inv hf
      refine x_cVi C (c_X1_rankOf hN h10) mw_X1_rankOf ln_RX11_250 mi_X1_rankOf (hN.rc (ci := 1) sh16 rc1) (ro_of (by decide) (by decide) (by decide) (by decide)) rfl rfl (Nat.le_of_ble_eq_true rfl) (dkAt dk_X11_busiest 15 rfl) 30 rfl 2 12 rfl rfl ?_
      refine x_iload_n C rfl rfl (dkAt dk_X11_busiest 16 rfl) 31 rfl ?_
      refine x_icmp_ne C 36 (dkAt dk_X11_busiest 17 rfl) 34 rfl (by decide) hf (fun hf => ?_) (fun hf => ?_)
      · refine x_iinc C (v := (x5 + (1 : Int32))) (L1 := [some (.ref (wad Γ 0)), some (.int p0), some (.int (x5 + (1 : Int32)))]) (dkAt dk_X11_busiest 20 rfl) 39 rfl rfl rfl (by decide) rfl ?_
        refine x_goto C 11 (dkAt dk_X11_busiest 21 rfl) (by decide) ?_
        exact G.weak (L := [some (.ref (wad Γ 0)), some (.int p0), some (.int (x5 + (1 : Int32)))]) ⟨rfl, rfl, rfl, trivial⟩ (ih _ _ hf)
      · refine x_iload_n C rfl rfl (dkAt dk_X11_busiest 18 rfl) 35 rfl ?_
        exact t_iret C E hf (by decide) (by decide) (dkAt dk_X11_busiest 19 rfl)
set_option maxRecDepth 100000 in
theorem c_X11_busiest {Γ : WC} (hN : HN Γ) {Z : Nat} {M : Mem} {p0 : Int32} {rM : Except Nat Int32 × Mem}  (hf : f_X11_busiest Z M p0 = some rM) : CtT Γ yX11_busiest cX11_busiest 3 (some .int) (rmL 8 2 12) [.ref (wad Γ 0), .int p0] M (fun v => some (.int v)) rM := by
  refine mkT hN.1 (own := RX11) rfl (by decide) (Nat.le_of_ble_eq_true rfl) (fun X C E => ?_)
  change G Γ X M 0 0 [some (.ref (wad Γ 0)), some (.int p0)] [] 0
  unfold f_X11_busiest at hf
  refine x_aload_n C rfl rfl (dkAt dk_X11_busiest 0 rfl) 1 rfl ?_
  refine x_iload_n C rfl rfl (dkAt dk_X11_busiest 1 rfl) 2 rfl ?_
  refine t_cVv C E hf (fun r hr => c_X11_needState hN hr) mw_X11_needState ln_RX11_166 mi_X11_needState (hN.rc (ci := 11) sh0 rc11) (ro_of (by decide) (by decide) (by decide) (by decide)) rfl rfl (Nat.le_of_ble_eq_true rfl) (dkAt dk_X11_busiest 2 rfl) 5 rfl 2 12 rfl rfl (by decide) (by decide) (fun v1 M2 hf => ?_)
  refine x_aload_n C rfl rfl (dkAt dk_X11_busiest 3 rfl) 6 rfl ?_
  obtain ⟨v3, M4, h11, hf⟩ := cl_inv hf
  refine x_cVv C (c_X11_followRules hN h11) mw_X11_followRules ln_RX11_205 mi_X11_followRules (hN.rc (ci := 11) sh0 rc11) (ro_of (by decide) (by decide) (by decide) (by decide)) rfl rfl (Nat.le_of_ble_eq_true rfl) (dkAt dk_X11_busiest 4 rfl) 9 rfl 2 12 rfl rfl ?_
  refine x_iconst C (v := (0 : Int32)) (by decide) (dkAt dk_X11_busiest 5 rfl) 10 rfl ?_
  refine x_istore_n C (L1 := [some (.ref (wad Γ 0)), some (.int p0), some (.int (0 : Int32))]) (dkAt dk_X11_busiest 6 rfl) 11 rfl rfl (by decide) rfl ?_
  refine G.weak (L := [some (.ref (wad Γ 0)), some (.int p0), some (.int (0 : Int32))]) ⟨rfl, rfl, rfl, trivial⟩ ?_
  refine l_X11_busiest_L11 hN C E Z _ _ hf
def f_X11_meanGain (Z : Nat) (M : Mem)  : Option (Except Nat UInt32 × Mem) :=
  clT (f_X11_needChain Z M) (fun v1 M2 => cl (f_X11_followRules Z M2) (fun v3 M4 => cl (f_X1_gainOf Z M4 (11)) (fun v5 M6 => bd (gI M6 (10) 4) (fun v7 => cl (f_X11_unitOf Z M6 v7) (fun v8 M9 => okF (FP.fdiv (FP.l2f v5) (FP.l2f v8)) (some (.ok (FP.fdiv (FP.l2f v5) (FP.l2f v8)), M9))))))) pr
set_option maxRecDepth 100000 in
theorem c_X11_meanGain {Γ : WC} (hN : HN Γ) {Z : Nat} {M : Mem}  {rM : Except Nat UInt32 × Mem}  (hf : f_X11_meanGain Z M  = some rM) : CtT Γ yX11_meanGain cX11_meanGain 1 (some .float) (rmL 7 1 6) [.ref (wad Γ 0)] M (fun v => some (.float v)) rM := by
  refine mkT hN.1 (own := RX11) rfl (by decide) (Nat.le_of_ble_eq_true rfl) (fun X C E => ?_)
  change G Γ X M 0 0 [some (.ref (wad Γ 0))] [] 0
  unfold f_X11_meanGain at hf
  refine x_aload_n C rfl rfl (dkAt dk_X11_meanGain 0 rfl) 1 rfl ?_
  refine t_cVv C E hf (fun r hr => c_X11_needChain hN hr) mw_X11_needChain ln_RX11_160 mi_X11_needChain (hN.rc (ci := 11) sh0 rc11) (ro_of (by decide) (by decide) (by decide) (by decide)) rfl rfl (Nat.le_of_ble_eq_true rfl) (dkAt dk_X11_meanGain 1 rfl) 4 rfl 1 6 rfl rfl (by decide) (by decide) (fun v1 M2 hf => ?_)
  refine x_aload_n C rfl rfl (dkAt dk_X11_meanGain 2 rfl) 5 rfl ?_
  obtain ⟨v3, M4, h12, hf⟩ := cl_inv hf
  refine x_cVv C (c_X11_followRules hN h12) mw_X11_followRules ln_RX11_205 mi_X11_followRules (hN.rc (ci := 11) sh0 rc11) (ro_of (by decide) (by decide) (by decide) (by decide)) rfl rfl (Nat.le_of_ble_eq_true rfl) (dkAt dk_X11_meanGain 3 rfl) 8 rfl 1 6 rfl rfl ?_
  refine x_aload_n C rfl rfl (dkAt dk_X11_meanGain 4 rfl) 9 rfl ?_
  refine x_getS C lk_RX11_53 (hN.sh sh0) (hN.sr sr0_5) (dkAt dk_X11_meanGain 5 rfl) 12 rfl ?_
  refine x_aload_n C rfl rfl (dkAt dk_X11_meanGain 6 rfl) 13 rfl ?_
  refine x_getS C lk_RX11_42 (hN.sh sh0) (hN.sr sr0_3) (dkAt dk_X11_meanGain 7 rfl) 16 rfl ?_
  refine x_getS C lk_RX11_192 (hN.sh sh10) (hN.sr sr10_0) (dkAt dk_X11_meanGain 8 rfl) 19 rfl ?_
  obtain ⟨v5, M6, h11, hf⟩ := cl_inv hf
  refine x_cVl C (c_X1_gainOf hN sh11 h11) mw_X1_gainOf ln_RX11_230 mi_X1_gainOf (hN.rc (ci := 1) sh16 rc1) (ro_of (by decide) (by decide) (by decide) (by decide)) rfl rfl (Nat.le_of_ble_eq_true rfl) (dkAt dk_X11_meanGain 9 rfl) 22 rfl 1 6 rfl rfl ?_
  refine x_l2f C (dkAt dk_X11_meanGain 10 rfl) 23 rfl ?_
  refine x_aload_n C rfl rfl (dkAt dk_X11_meanGain 11 rfl) 24 rfl ?_
  refine x_getS C lk_RX11_42 (hN.sh sh0) (hN.sr sr0_3) (dkAt dk_X11_meanGain 12 rfl) 27 rfl ?_
  refine x_getI C lk_RX11_157 (hN.sh sh10) (dkAt dk_X11_meanGain 13 rfl) 30 rfl hf (fun v7 hf => ?_)
  obtain ⟨v8, M9, h10, hf⟩ := cl_inv hf
  refine x_cSl C (c_X11_unitOf hN h10) mw_X11_unitOf ln_RX11_227 ms_X11_unitOf (ro_of (by decide) (by decide) (by decide) (by decide)) rfl rfl (Nat.le_of_ble_eq_true rfl) (dkAt dk_X11_meanGain 14 rfl) 33 rfl 1 6 rfl rfl ?_
  refine x_l2f C (dkAt dk_X11_meanGain 15 rfl) 34 rfl ?_
  refine x_fdivK C (dkAt dk_X11_meanGain 16 rfl) 35 rfl hf (fun hf => ?_)
  exact t_fret C E hf (by decide) (by decide) (dkAt dk_X11_meanGain 17 rfl)
def f_X11_likeliestAt (Z : Nat) (M : Mem) (p0 : Int32) : Option (Except Nat Int32 × Mem) :=
  clT (f_X11_needTime Z M p0) (fun v1 M2 => cl (f_X11_followRules Z M2) (fun v3 M4 => cl (f_X1_stateOfLikeliest Z M4 p0) (fun v5 M6 => some (.ok v5, M6)))) pr
set_option maxRecDepth 100000 in
theorem c_X11_likeliestAt {Γ : WC} (hN : HN Γ) {Z : Nat} {M : Mem} {p0 : Int32} {rM : Except Nat Int32 × Mem}  (hf : f_X11_likeliestAt Z M p0 = some rM) : CtT Γ yX11_likeliestAt cX11_likeliestAt 2 (some .int) (rmL 8 2 12) [.ref (wad Γ 0), .int p0] M (fun v => some (.int v)) rM := by
  refine mkT hN.1 (own := RX11) rfl (by decide) (Nat.le_of_ble_eq_true rfl) (fun X C E => ?_)
  change G Γ X M 0 0 [some (.ref (wad Γ 0)), some (.int p0)] [] 0
  unfold f_X11_likeliestAt at hf
  refine x_aload_n C rfl rfl (dkAt dk_X11_likeliestAt 0 rfl) 1 rfl ?_
  refine x_iload_n C rfl rfl (dkAt dk_X11_likeliestAt 1 rfl) 2 rfl ?_
  refine t_cVv C E hf (fun r hr => c_X11_needTime hN hr) mw_X11_needTime ln_RX11_202 mi_X11_needTime (hN.rc (ci := 11) sh0 rc11) (ro_of (by decide) (by decide) (by decide) (by decide)) rfl rfl (Nat.le_of_ble_eq_true rfl) (dkAt dk_X11_likeliestAt 2 rfl) 5 rfl 2 12 rfl rfl (by decide) (by decide) (fun v1 M2 hf => ?_)
  refine x_aload_n C rfl rfl (dkAt dk_X11_likeliestAt 3 rfl) 6 rfl ?_
  obtain ⟨v3, M4, h8, hf⟩ := cl_inv hf
  refine x_cVv C (c_X11_followRules hN h8) mw_X11_followRules ln_RX11_205 mi_X11_followRules (hN.rc (ci := 11) sh0 rc11) (ro_of (by decide) (by decide) (by decide) (by decide)) rfl rfl (Nat.le_of_ble_eq_true rfl) (dkAt dk_X11_likeliestAt 4 rfl) 9 rfl 2 12 rfl rfl ?_
  refine x_aload_n C rfl rfl (dkAt dk_X11_likeliestAt 5 rfl) 10 rfl ?_
  refine x_getS C lk_RX11_53 (hN.sh sh0) (hN.sr sr0_5) (dkAt dk_X11_likeliestAt 6 rfl) 13 rfl ?_
  refine x_iload_n C rfl rfl (dkAt dk_X11_likeliestAt 7 rfl) 14 rfl ?_
  obtain ⟨v5, M6, h7, hf⟩ := cl_inv hf
  refine x_cVi C (c_X1_stateOfLikeliest hN h7) mw_X1_stateOfLikeliest ln_RX11_257 mi_X1_stateOfLikeliest (hN.rc (ci := 1) sh16 rc1) (ro_of (by decide) (by decide) (by decide) (by decide)) rfl rfl (Nat.le_of_ble_eq_true rfl) (dkAt dk_X11_likeliestAt 8 rfl) 17 rfl 2 12 rfl rfl ?_
  exact t_iret C E hf (by decide) (by decide) (dkAt dk_X11_likeliestAt 9 rfl)
def f_X11_value (Z : Nat) (M : Mem) (p0 : Int32) (p1 : Int32) : Option (Except Nat Int64 × Mem) :=
  clT (f_X11_needState Z M p0) (fun v1 M2 => clT (f_X11_needRange Z M2 p1 (0 : Int32) (5 : Int32)) (fun v3 M4 => cl (f_X9_fill Z M4) (fun v5 M6 => cl (f_X9_of Z M6 p0 p1) (fun v7 M8 => some (.ok v7, M8)))) pr) pr
set_option maxRecDepth 100000 in
theorem c_X11_value {Γ : WC} (hN : HN Γ) {Z : Nat} {M : Mem} {p0 : Int32} {p1 : Int32} {rM : Except Nat Int64 × Mem}  (hf : f_X11_value Z M p0 p1 = some rM) : CtT Γ yX11_value cX11_value 3 (some .long) (rmL 8 3 18) [.ref (wad Γ 0), .int p0, .int p1] M (fun v => some (.long v)) rM := by
  refine mkT hN.1 (own := RX11) rfl (by decide) (Nat.le_of_ble_eq_true rfl) (fun X C E => ?_)
  change G Γ X M 0 0 [some (.ref (wad Γ 0)), some (.int p0), some (.int p1)] [] 0
  unfold f_X11_value at hf
  refine x_aload_n C rfl rfl (dkAt dk_X11_value 0 rfl) 1 rfl ?_
  refine x_iload_n C rfl rfl (dkAt dk_X11_value 1 rfl) 2 rfl ?_
  refine t_cVv C E hf (fun r hr => c_X11_needState hN hr) mw_X11_needState ln_RX11_166 mi_X11_needState (hN.rc (ci := 11) sh0 rc11) (ro_of (by decide) (by decide) (by decide) (by decide)) rfl rfl (Nat.le_of_ble_eq_true rfl) (dkAt dk_X11_value 2 rfl) 5 rfl 2 12 rfl rfl (by decide) (by decide) (fun v1 M2 hf => ?_)
  refine x_iload_n C rfl rfl (dkAt dk_X11_value 3 rfl) 6 rfl ?_
  refine x_iconst C (v := (0 : Int32)) (by decide) (dkAt dk_X11_value 4 rfl) 7 rfl ?_
  refine x_iconst C (v := (5 : Int32)) (by decide) (dkAt dk_X11_value 5 rfl) 8 rfl ?_
  refine t_cSv C E hf (fun r hr => c_X11_needRange hN hr) mw_X11_needRange ln_RX11_212 ms_X11_needRange (ro_of (by decide) (by decide) (by decide) (by decide)) rfl rfl (Nat.le_of_ble_eq_true rfl) (dkAt dk_X11_value 6 rfl) 11 rfl 3 18 rfl rfl (by decide) (by decide) (fun v3 M4 hf => ?_)
  refine x_aload_n C rfl rfl (dkAt dk_X11_value 7 rfl) 12 rfl ?_
  refine x_getS C lk_RX11_78 (hN.sh sh0) (hN.sr sr0_8) (dkAt dk_X11_value 8 rfl) 15 rfl ?_
  obtain ⟨v5, M6, h10, hf⟩ := cl_inv hf
  refine x_cVv C (c_X9_fill hN h10) mw_X9_fill ln_RX11_260 mi_X9_fill (hN.rc (ci := 9) sh102 rc9) (ro_of (by decide) (by decide) (by decide) (by decide)) rfl rfl (Nat.le_of_ble_eq_true rfl) (dkAt dk_X11_value 9 rfl) 18 rfl 3 18 rfl rfl ?_
  refine x_aload_n C rfl rfl (dkAt dk_X11_value 10 rfl) 19 rfl ?_
  refine x_getS C lk_RX11_78 (hN.sh sh0) (hN.sr sr0_8) (dkAt dk_X11_value 11 rfl) 22 rfl ?_
  refine x_iload_n C rfl rfl (dkAt dk_X11_value 12 rfl) 23 rfl ?_
  refine x_iload_n C rfl rfl (dkAt dk_X11_value 13 rfl) 24 rfl ?_
  obtain ⟨v7, M8, h9, hf⟩ := cl_inv hf
  refine x_cVl C (c_X9_of hN h9) mw_X9_of ln_RX11_263 mi_X9_of (hN.rc (ci := 9) sh102 rc9) (ro_of (by decide) (by decide) (by decide) (by decide)) rfl rfl (Nat.le_of_ble_eq_true rfl) (dkAt dk_X11_value 14 rfl) 27 rfl 3 18 rfl rfl ?_
  exact t_lret C E hf (by decide) (by decide) (dkAt dk_X11_value 15 rfl)
def f_X11_valueAction (Z : Nat) (M : Mem) (p0 : Int32) (p1 : Int32) : Option (Except Nat Int32 × Mem) :=
  clT (f_X11_needState Z M p0) (fun v1 M2 => clT (f_X11_needRange Z M2 p1 (1 : Int32) (5 : Int32)) (fun v3 M4 => cl (f_X9_fill Z M4) (fun v5 M6 => cl (f_X9_firstAction Z M6 p0 p1) (fun v7 M8 => some (.ok v7, M8)))) pr) pr
set_option maxRecDepth 100000 in
theorem c_X11_valueAction {Γ : WC} (hN : HN Γ) {Z : Nat} {M : Mem} {p0 : Int32} {p1 : Int32} {rM : Except Nat Int32 × Mem}  (hf : f_X11_valueAction Z M p0 p1 = some rM) : CtT Γ yX11_valueAction cX11_valueAction 3 (some .int) (rmL 8 3 18) [.ref (wad Γ 0), .int p0, .int p1] M (fun v => some (.int v)) rM := by
  refine mkT hN.1 (own := RX11) rfl (by decide) (Nat.le_of_ble_eq_true rfl) (fun X C E => ?_)
  change G Γ X M 0 0 [some (.ref (wad Γ 0)), some (.int p0), some (.int p1)] [] 0
  unfold f_X11_valueAction at hf
  refine x_aload_n C rfl rfl (dkAt dk_X11_valueAction 0 rfl) 1 rfl ?_
  refine x_iload_n C rfl rfl (dkAt dk_X11_valueAction 1 rfl) 2 rfl ?_
  refine t_cVv C E hf (fun r hr => c_X11_needState hN hr) mw_X11_needState ln_RX11_166 mi_X11_needState (hN.rc (ci := 11) sh0 rc11) (ro_of (by decide) (by decide) (by decide) (by decide)) rfl rfl (Nat.le_of_ble_eq_true rfl) (dkAt dk_X11_valueAction 2 rfl) 5 rfl 2 12 rfl rfl (by decide) (by decide) (fun v1 M2 hf => ?_)
  refine x_iload_n C rfl rfl (dkAt dk_X11_valueAction 3 rfl) 6 rfl ?_
  refine x_iconst C (v := (1 : Int32)) (by decide) (dkAt dk_X11_valueAction 4 rfl) 7 rfl ?_
  refine x_iconst C (v := (5 : Int32)) (by decide) (dkAt dk_X11_valueAction 5 rfl) 8 rfl ?_
  refine t_cSv C E hf (fun r hr => c_X11_needRange hN hr) mw_X11_needRange ln_RX11_212 ms_X11_needRange (ro_of (by decide) (by decide) (by decide) (by decide)) rfl rfl (Nat.le_of_ble_eq_true rfl) (dkAt dk_X11_valueAction 6 rfl) 11 rfl 3 18 rfl rfl (by decide) (by decide) (fun v3 M4 hf => ?_)
  refine x_aload_n C rfl rfl (dkAt dk_X11_valueAction 7 rfl) 12 rfl ?_
  refine x_getS C lk_RX11_78 (hN.sh sh0) (hN.sr sr0_8) (dkAt dk_X11_valueAction 8 rfl) 15 rfl ?_
  obtain ⟨v5, M6, h10, hf⟩ := cl_inv hf
  refine x_cVv C (c_X9_fill hN h10) mw_X9_fill ln_RX11_260 mi_X9_fill (hN.rc (ci := 9) sh102 rc9) (ro_of (by decide) (by decide) (by decide) (by decide)) rfl rfl (Nat.le_of_ble_eq_true rfl) (dkAt dk_X11_valueAction 9 rfl) 18 rfl 3 18 rfl rfl ?_
  refine x_aload_n C rfl rfl (dkAt dk_X11_valueAction 10 rfl) 19 rfl ?_
  refine x_getS C lk_RX11_78 (hN.sh sh0) (hN.sr sr0_8) (dkAt dk_X11_valueAction 11 rfl) 22 rfl ?_
  refine x_iload_n C rfl rfl (dkAt dk_X11_valueAction 12 rfl) 23 rfl ?_
  refine x_iload_n C rfl rfl (dkAt dk_X11_valueAction 13 rfl) 24 rfl ?_
  obtain ⟨v7, M8, h9, hf⟩ := cl_inv hf
  refine x_cVi C (c_X9_firstAction hN h9) mw_X9_firstAction ln_RX11_266 mi_X9_firstAction (hN.rc (ci := 9) sh102 rc9) (ro_of (by decide) (by decide) (by decide) (by decide)) rfl rfl (Nat.le_of_ble_eq_true rfl) (dkAt dk_X11_valueAction 14 rfl) 27 rfl 3 18 rfl rfl ?_
  exact t_iret C E hf (by decide) (by decide) (dkAt dk_X11_valueAction 15 rfl)
def f_X11_worth (Z : Nat) (M : Mem) (p0 : Int32) (p1 : Int32) : Option (Except Nat Int64 × Mem) :=
  clT (f_X11_needBudget Z M p0) (fun v1 M2 => clT (f_X11_needRange Z M2 p1 (1 : Int32) (9999 : Int32)) (fun v3 M4 => cl (f_X5_findBest Z M4 (-1 : Int32) (0 : Int32)) (fun v5 M6 => (if v5 = (-9223372036854775808 : Int64) then some (.ok (-9223372036854775808 : Int64), M6) else cl (f_X5_findBest Z M6 p0 p1) (fun v7 M8 => some (.ok (v7 - v5), M8))))) pr) pr
set_option maxRecDepth 100000 in
theorem c_X11_worth {Γ : WC} (hN : HN Γ) {Z : Nat} {M : Mem} {p0 : Int32} {p1 : Int32} {rM : Except Nat Int64 × Mem}  (hf : f_X11_worth Z M p0 p1 = some rM) : CtT Γ yX11_worth cX11_worth 5 (some .long) (rmL 8 3 18) [.ref (wad Γ 0), .int p0, .int p1] M (fun v => some (.long v)) rM := by
  refine mkT hN.1 (own := RX11) rfl (by decide) (Nat.le_of_ble_eq_true rfl) (fun X C E => ?_)
  change G Γ X M 0 0 [some (.ref (wad Γ 0)), some (.int p0), some (.int p1)] [] 0
  unfold f_X11_worth at hf
  refine x_aload_n C rfl rfl (dkAt dk_X11_worth 0 rfl) 1 rfl ?_
  refine x_iload_n C rfl rfl (dkAt dk_X11_worth 1 rfl) 2 rfl ?_
  refine t_cVv C E hf (fun r hr => c_X11_needBudget hN hr) mw_X11_needBudget ln_RX11_183 mi_X11_needBudget (hN.rc (ci := 11) sh0 rc11) (ro_of (by decide) (by decide) (by decide) (by decide)) rfl rfl (Nat.le_of_ble_eq_true rfl) (dkAt dk_X11_worth 2 rfl) 5 rfl 2 12 rfl rfl (by decide) (by decide) (fun v1 M2 hf => ?_)
  refine x_iload_n C rfl rfl (dkAt dk_X11_worth 3 rfl) 6 rfl ?_
  refine x_iconst C (v := (1 : Int32)) (by decide) (dkAt dk_X11_worth 4 rfl) 7 rfl ?_
  refine x_sipush C (v := (9999 : Int32)) (by decide) (dkAt dk_X11_worth 5 rfl) 10 rfl ?_
  refine t_cSv C E hf (fun r hr => c_X11_needRange hN hr) mw_X11_needRange ln_RX11_212 ms_X11_needRange (ro_of (by decide) (by decide) (by decide) (by decide)) rfl rfl (Nat.le_of_ble_eq_true rfl) (dkAt dk_X11_worth 6 rfl) 13 rfl 3 18 rfl rfl (by decide) (by decide) (fun v3 M4 hf => ?_)
  refine x_aload_n C rfl rfl (dkAt dk_X11_worth 7 rfl) 14 rfl ?_
  refine x_getS C lk_RX11_69 (hN.sh sh0) (hN.sr sr0_7) (dkAt dk_X11_worth 8 rfl) 17 rfl ?_
  refine x_iconst C (v := (-1 : Int32)) (by decide) (dkAt dk_X11_worth 9 rfl) 18 rfl ?_
  refine x_iconst C (v := (0 : Int32)) (by decide) (dkAt dk_X11_worth 10 rfl) 19 rfl ?_
  obtain ⟨v5, M6, h10, hf⟩ := cl_inv hf
  refine x_cVl C (c_X5_findBest hN h10) mw_X5_findBest ln_RX11_269 mi_X5_findBest (hN.rc (ci := 5) sh96 rc5) (ro_of (by decide) (by decide) (by decide) (by decide)) rfl rfl (Nat.le_of_ble_eq_true rfl) (dkAt dk_X11_worth 11 rfl) 22 rfl 3 18 rfl rfl ?_
  refine x_lstore_n C (L1 := [some (.ref (wad Γ 0)), some (.int p0), some (.int p1), some (.long v5)]) (dkAt dk_X11_worth 12 rfl) 23 rfl rfl (by decide) rfl ?_
  refine x_lload_n C rfl rfl (dkAt dk_X11_worth 13 rfl) 24 rfl ?_
  refine x_ldc2 C (v := (-9223372036854775808 : Int64)) cl_RX11_272 (dkAt dk_X11_worth 14 rfl) 27 rfl ?_
  refine x_lcmp_ne C 37 (dkAt dk_X11_worth 15 rfl) 31 rfl (dkAt dk_X11_worth 16 rfl) (by decide) hf (fun hf => ?_) (fun hf => ?_)
  · refine x_aload_n C rfl rfl (dkAt dk_X11_worth 19 rfl) 38 rfl ?_
    refine x_getS C lk_RX11_69 (hN.sh sh0) (hN.sr sr0_7) (dkAt dk_X11_worth 20 rfl) 41 rfl ?_
    refine x_iload_n C rfl rfl (dkAt dk_X11_worth 21 rfl) 42 rfl ?_
    refine x_iload_n C rfl rfl (dkAt dk_X11_worth 22 rfl) 43 rfl ?_
    obtain ⟨v7, M8, h9, hf⟩ := cl_inv hf
    refine x_cVl C (c_X5_findBest hN h9) mw_X5_findBest ln_RX11_269 mi_X5_findBest (hN.rc (ci := 5) sh96 rc5) (ro_of (by decide) (by decide) (by decide) (by decide)) rfl rfl (Nat.le_of_ble_eq_true rfl) (dkAt dk_X11_worth 23 rfl) 46 rfl 3 18 rfl rfl ?_
    refine x_lload_n C rfl rfl (dkAt dk_X11_worth 24 rfl) 47 rfl ?_
    refine x_lsub C (dkAt dk_X11_worth 25 rfl) 48 rfl ?_
    exact t_lret C E hf (by decide) (by decide) (dkAt dk_X11_worth 26 rfl)
  · refine x_ldc2 C (v := (-9223372036854775808 : Int64)) cl_RX11_272 (dkAt dk_X11_worth 17 rfl) 34 rfl ?_
    refine x_goto C 48 (dkAt dk_X11_worth 18 rfl) (by decide) ?_
    exact t_lret C E hf (by decide) (by decide) (dkAt dk_X11_worth 26 rfl)
def f_X11_bestWeight_L64 (Z : Nat) (p0 : Int32) (p1 : Int32) (p2 : Int32) : Nat → Int32 → Int64 → Int32 → Mem → Option (Except Nat Int32 × Mem)
  | 0, _, _, _, _ => none
  | n + 1, x9, x10, x11, M12 => (if (10 : Int32) < x11 then some (.ok x9, M12) else cl (f_X11_rowOf Z M12 p0 p1) (fun v13 M14 => wrI M14 107 18 v13 ((10 : Int32) - x11) (fun M15 => cl (f_X11_rowOf Z M15 p0 p2) (fun v16 M17 => wrI M17 107 18 v16 x11 (fun M18 => cl (f_X11_brokenWith Z M18 (107)) (fun v19 M20 => jn (fun (t21 : Int32 × Int64 × Mem) => f_X11_bestWeight_L64 Z p0 p1 p2 n t21.1 t21.2.1 (x11 + (1 : Int32)) t21.2.2) (fun j22 => (if v19 = 0 then cl (f_X1_gainOf Z M20 (107)) (fun v23 M24 => (if v23 ≤ x10 then j22 (x9, x10, M24) else cl (f_X1_gainOf Z M24 (107)) (fun v25 M26 => j22 (x11, v25, M26)))) else j22 (x9, x10, M20)))))))))
def f_X11_bestWeight (Z : Nat) (M : Mem) (p0 : Int32) (p1 : Int32) (p2 : Int32) : Option (Except Nat Int32 × Mem) :=
  clT (f_X11_needAction Z M p0 p1) (fun v1 M2 => clT (f_X11_needAction Z M2 p0 p2) (fun v3 M4 => (if p1 = p2 then some (.error 2, M4) else cl (f_X11_copyRow Z M4 (11) 18 (107) 18) (fun v5 M6 => cl (f_X11_setWeights Z M6 (107) p0 (0 : Int32) (0 : Int32) (0 : Int32)) (fun v7 M8 => f_X11_bestWeight_L64 Z p0 p1 p2 Z (-1 : Int32) (-9223372036854775808 : Int64) (0 : Int32) M8)))) pr) pr
set_option maxRecDepth 100000 in
theorem l_X11_bestWeight_L64 {Γ : WC} {X : MX} (hN : HN Γ) (C : CX Γ X cX11_bestWeight 8 RX11 (some .int) (rmL 9 7 42)) {rM : Except Nat Int32 × Mem} (E : EndT Γ X (fun v => some (.int v)) rM 7 42) {Z : Nat} {p0 : Int32} {p1 : Int32} {p2 : Int32} : ∀ (n : Nat) (x9 : Int32) (x10 : Int64) (x11 : Int32) (M12 : Mem), f_X11_bestWeight_L64 Z p0 p1 p2 n x9 x10 x11 M12 = some rM → G Γ X M12 6 36 [some (.ref (wad Γ 0)), some (.int p0), some (.int p1), some (.int p2), some (.int x9), some (.long x10), none, some (.int x11)] [] 64 := by
  intro n
  induction n with
  | zero =>
    intro x9 x10 x11 M12 hf
    have hf0 : (none : Option _) = some rM := hf
    cases hf0
  | succ n ih =>
    intro x9 x10 x11 M12 hf
    rw [f_X11_bestWeight_L64] at hf
    refine x_iload C rfl (dkAt dk_X11_bestWeight 35 rfl) 66 rfl ?_
    refine x_bipush C (v := (10 : Int32)) (by decide) (dkAt dk_X11_bestWeight 36 rfl) 68 rfl ?_
    refine x_icmp_gt C 149 (dkAt dk_X11_bestWeight 37 rfl) 71 rfl (by decide) hf (fun hf => ?_) (fun hf => ?_)
    · refine x_iload C rfl (dkAt dk_X11_bestWeight 77 rfl) 151 rfl ?_
      exact t_iret C E hf (by decide) (by decide) (dkAt dk_X11_bestWeight 78 rfl)
    · refine x_aload_n C rfl rfl (dkAt dk_X11_bestWeight 38 rfl) 72 rfl ?_
      refine x_getS C lk_RX11_96 (hN.sh sh0) (hN.sr sr0_11) (dkAt dk_X11_bestWeight 39 rfl) 75 rfl ?_
      refine x_iload_n C rfl rfl (dkAt dk_X11_bestWeight 40 rfl) 76 rfl ?_
      refine x_iload_n C rfl rfl (dkAt dk_X11_bestWeight 41 rfl) 77 rfl ?_
      obtain ⟨v13, M14, h31, hf⟩ := cl_inv hf
      refine x_cSi C (c_X11_rowOf hN h31) mw_X11_rowOf ln_RX11_179 ms_X11_rowOf (ro_of (by decide) (by decide) (by decide) (by decide)) rfl rfl (Nat.le_of_ble_eq_true rfl) (dkAt dk_X11_bestWeight 42 rfl) 80 rfl 6 36 rfl rfl ?_
      refine x_bipush C (v := (10 : Int32)) (by decide) (dkAt dk_X11_bestWeight 43 rfl) 82 rfl ?_
      refine x_iload C rfl (dkAt dk_X11_bestWeight 44 rfl) 84 rfl ?_
      refine x_isub C (dkAt dk_X11_bestWeight 45 rfl) 85 rfl ?_
      refine x_iast C (hN.sh sh107) (dkAt dk_X11_bestWeight 46 rfl) 86 rfl hf (fun M15 hf => ?_)
      refine x_aload_n C rfl rfl (dkAt dk_X11_bestWeight 47 rfl) 87 rfl ?_
      refine x_getS C lk_RX11_96 (hN.sh sh0) (hN.sr sr0_11) (dkAt dk_X11_bestWeight 48 rfl) 90 rfl ?_
      refine x_iload_n C rfl rfl (dkAt dk_X11_bestWeight 49 rfl) 91 rfl ?_
      refine x_iload_n C rfl rfl (dkAt dk_X11_bestWeight 50 rfl) 92 rfl ?_
      obtain ⟨v16, M17, h30, hf⟩ := cl_inv hf
      refine x_cSi C (c_X11_rowOf hN h30) mw_X11_rowOf ln_RX11_179 ms_X11_rowOf (ro_of (by decide) (by decide) (by decide) (by decide)) rfl rfl (Nat.le_of_ble_eq_true rfl) (dkAt dk_X11_bestWeight 51 rfl) 95 rfl 6 36 rfl rfl ?_
      refine x_iload C rfl (dkAt dk_X11_bestWeight 52 rfl) 97 rfl ?_
      refine x_iast C (hN.sh sh107) (dkAt dk_X11_bestWeight 53 rfl) 98 rfl hf (fun M18 hf => ?_)
      refine x_aload_n C rfl rfl (dkAt dk_X11_bestWeight 54 rfl) 99 rfl ?_
      refine x_aload_n C rfl rfl (dkAt dk_X11_bestWeight 55 rfl) 100 rfl ?_
      refine x_getS C lk_RX11_96 (hN.sh sh0) (hN.sr sr0_11) (dkAt dk_X11_bestWeight 56 rfl) 103 rfl ?_
      obtain ⟨v19, M20, h29, hf⟩ := cl_inv hf
      refine x_cVi C (c_X11_brokenWith hN sh107 h29) mw_X11_brokenWith ln_RX11_238 mi_X11_brokenWith (hN.rc (ci := 11) sh0 rc11) (ro_of (by decide) (by decide) (by decide) (by decide)) rfl rfl (Nat.le_of_ble_eq_true rfl) (dkAt dk_X11_bestWeight 57 rfl) 106 rfl 6 36 rfl rfl ?_
      refine x_join hf (fun t21 => G Γ X t21.2.2 6 36 [some (.ref (wad Γ 0)), some (.int p0), some (.int p1), some (.int p2), some (.int t21.1), some (.long t21.2.1), none, some (.int x11)] [] 143) (fun t21 hf => ?_) (fun j22 hj22 hf => ?_)
      · refine x_iinc C (v := (x11 + (1 : Int32))) (L1 := [some (.ref (wad Γ 0)), some (.int p0), some (.int p1), some (.int p2), some (.int t21.1), some (.long t21.2.1), none, some (.int (x11 + (1 : Int32)))]) (dkAt dk_X11_bestWeight 75 rfl) 146 rfl rfl rfl (by decide) rfl ?_
        refine x_goto C 64 (dkAt dk_X11_bestWeight 76 rfl) (by decide) ?_
        exact G.weak (L := [some (.ref (wad Γ 0)), some (.int p0), some (.int p1), some (.int p2), some (.int t21.1), some (.long t21.2.1), none, some (.int (x11 + (1 : Int32)))]) ⟨rfl, rfl, rfl, rfl, rfl, rfl, rfl, trivial⟩ (ih _ _ _ _ hf)
      · refine x_if_ne C 143 (dkAt dk_X11_bestWeight 58 rfl) 109 rfl (by decide) hf (fun hf => ?_) (fun hf => ?_)
        · exact G.weak (L := [some (.ref (wad Γ 0)), some (.int p0), some (.int p1), some (.int p2), some (.int x9), some (.long x10), none, some (.int x11)]) ⟨rfl, rfl, rfl, rfl, rfl, rfl, rfl, trivial⟩ (hj22 _ hf)
        · refine x_aload_n C rfl rfl (dkAt dk_X11_bestWeight 59 rfl) 110 rfl ?_
          refine x_getS C lk_RX11_53 (hN.sh sh0) (hN.sr sr0_5) (dkAt dk_X11_bestWeight 60 rfl) 113 rfl ?_
          refine x_aload_n C rfl rfl (dkAt dk_X11_bestWeight 61 rfl) 114 rfl ?_
          refine x_getS C lk_RX11_96 (hN.sh sh0) (hN.sr sr0_11) (dkAt dk_X11_bestWeight 62 rfl) 117 rfl ?_
          obtain ⟨v23, M24, h28, hf⟩ := cl_inv hf
          refine x_cVl C (c_X1_gainOf hN sh107 h28) mw_X1_gainOf ln_RX11_230 mi_X1_gainOf (hN.rc (ci := 1) sh16 rc1) (ro_of (by decide) (by decide) (by decide) (by decide)) rfl rfl (Nat.le_of_ble_eq_true rfl) (dkAt dk_X11_bestWeight 63 rfl) 120 rfl 6 36 rfl rfl ?_
          refine x_lload C rfl (dkAt dk_X11_bestWeight 64 rfl) 122 rfl ?_
          refine x_lcmp_le C 143 (dkAt dk_X11_bestWeight 65 rfl) 126 rfl (dkAt dk_X11_bestWeight 66 rfl) (by decide) hf (fun hf => ?_) (fun hf => ?_)
          · exact G.weak (L := [some (.ref (wad Γ 0)), some (.int p0), some (.int p1), some (.int p2), some (.int x9), some (.long x10), none, some (.int x11)]) ⟨rfl, rfl, rfl, rfl, rfl, rfl, rfl, trivial⟩ (hj22 _ hf)
          · refine x_iload C rfl (dkAt dk_X11_bestWeight 67 rfl) 128 rfl ?_
            refine x_istore C (L1 := [some (.ref (wad Γ 0)), some (.int p0), some (.int p1), some (.int p2), some (.int x11), some (.long x10), none, some (.int x11)]) (dkAt dk_X11_bestWeight 68 rfl) 130 rfl (by decide) rfl ?_
            refine x_aload_n C rfl rfl (dkAt dk_X11_bestWeight 69 rfl) 131 rfl ?_
            refine x_getS C lk_RX11_53 (hN.sh sh0) (hN.sr sr0_5) (dkAt dk_X11_bestWeight 70 rfl) 134 rfl ?_
            refine x_aload_n C rfl rfl (dkAt dk_X11_bestWeight 71 rfl) 135 rfl ?_
            refine x_getS C lk_RX11_96 (hN.sh sh0) (hN.sr sr0_11) (dkAt dk_X11_bestWeight 72 rfl) 138 rfl ?_
            obtain ⟨v25, M26, h27, hf⟩ := cl_inv hf
            refine x_cVl C (c_X1_gainOf hN sh107 h27) mw_X1_gainOf ln_RX11_230 mi_X1_gainOf (hN.rc (ci := 1) sh16 rc1) (ro_of (by decide) (by decide) (by decide) (by decide)) rfl rfl (Nat.le_of_ble_eq_true rfl) (dkAt dk_X11_bestWeight 73 rfl) 141 rfl 6 36 rfl rfl ?_
            refine x_lstore C (L1 := [some (.ref (wad Γ 0)), some (.int p0), some (.int p1), some (.int p2), some (.int x11), some (.long v25), none, some (.int x11)]) (dkAt dk_X11_bestWeight 74 rfl) 143 rfl (by decide) rfl ?_
            exact G.weak (L := [some (.ref (wad Γ 0)), some (.int p0), some (.int p1), some (.int p2), some (.int x11), some (.long v25), none, some (.int x11)]) ⟨rfl, rfl, rfl, rfl, rfl, rfl, rfl, trivial⟩ (hj22 _ hf)
set_option maxRecDepth 100000 in
theorem c_X11_bestWeight {Γ : WC} (hN : HN Γ) {Z : Nat} {M : Mem} {p0 : Int32} {p1 : Int32} {p2 : Int32} {rM : Except Nat Int32 × Mem}  (hf : f_X11_bestWeight Z M p0 p1 p2 = some rM) : CtT Γ yX11_bestWeight cX11_bestWeight 8 (some .int) (rmL 9 7 42) [.ref (wad Γ 0), .int p0, .int p1, .int p2] M (fun v => some (.int v)) rM := by
  refine mkT hN.1 (own := RX11) rfl (by decide) (Nat.le_of_ble_eq_true rfl) (fun X C E => ?_)
  change G Γ X M 0 0 [some (.ref (wad Γ 0)), some (.int p0), some (.int p1), some (.int p2)] [] 0
  unfold f_X11_bestWeight at hf
  refine x_aload_n C rfl rfl (dkAt dk_X11_bestWeight 0 rfl) 1 rfl ?_
  refine x_iload_n C rfl rfl (dkAt dk_X11_bestWeight 1 rfl) 2 rfl ?_
  refine x_iload_n C rfl rfl (dkAt dk_X11_bestWeight 2 rfl) 3 rfl ?_
  refine t_cVv C E hf (fun r hr => c_X11_needAction hN hr) mw_X11_needAction ln_RX11_172 mi_X11_needAction (hN.rc (ci := 11) sh0 rc11) (ro_of (by decide) (by decide) (by decide) (by decide)) rfl rfl (Nat.le_of_ble_eq_true rfl) (dkAt dk_X11_bestWeight 3 rfl) 6 rfl 3 18 rfl rfl (by decide) (by decide) (fun v1 M2 hf => ?_)
  refine x_aload_n C rfl rfl (dkAt dk_X11_bestWeight 4 rfl) 7 rfl ?_
  refine x_iload_n C rfl rfl (dkAt dk_X11_bestWeight 5 rfl) 8 rfl ?_
  refine x_iload_n C rfl rfl (dkAt dk_X11_bestWeight 6 rfl) 9 rfl ?_
  refine t_cVv C E hf (fun r hr => c_X11_needAction hN hr) mw_X11_needAction ln_RX11_172 mi_X11_needAction (hN.rc (ci := 11) sh0 rc11) (ro_of (by decide) (by decide) (by decide) (by decide)) rfl rfl (Nat.le_of_ble_eq_true rfl) (dkAt dk_X11_bestWeight 7 rfl) 12 rfl 6 36 rfl rfl (by decide) (by decide) (fun v3 M4 hf => ?_)
  refine x_iload_n C rfl rfl (dkAt dk_X11_bestWeight 8 rfl) 13 rfl ?_
  refine x_iload_n C rfl rfl (dkAt dk_X11_bestWeight 9 rfl) 14 rfl ?_
  refine x_icmp_ne C 28 (dkAt dk_X11_bestWeight 10 rfl) 17 rfl (by decide) hf (fun hf => ?_) (fun hf => ?_)
  · refine x_aload_n C rfl rfl (dkAt dk_X11_bestWeight 16 rfl) 29 rfl ?_
    refine x_getS C lk_RX11_42 (hN.sh sh0) (hN.sr sr0_3) (dkAt dk_X11_bestWeight 17 rfl) 32 rfl ?_
    refine x_getS C lk_RX11_192 (hN.sh sh10) (hN.sr sr10_0) (dkAt dk_X11_bestWeight 18 rfl) 35 rfl ?_
    refine x_aload_n C rfl rfl (dkAt dk_X11_bestWeight 19 rfl) 36 rfl ?_
    refine x_getS C lk_RX11_96 (hN.sh sh0) (hN.sr sr0_11) (dkAt dk_X11_bestWeight 20 rfl) 39 rfl ?_
    obtain ⟨v5, M6, h33, hf⟩ := cl_inv hf
    refine x_cSv C (c_X11_copyRow hN sh11 sh107 h33) mw_X11_copyRow ln_RX11_285 ms_X11_copyRow (ro_of (by decide) (by decide) (by decide) (by decide)) rfl rfl (Nat.le_of_ble_eq_true rfl) (dkAt dk_X11_bestWeight 21 rfl) 42 rfl 6 36 rfl rfl ?_
    refine x_aload_n C rfl rfl (dkAt dk_X11_bestWeight 22 rfl) 43 rfl ?_
    refine x_getS C lk_RX11_96 (hN.sh sh0) (hN.sr sr0_11) (dkAt dk_X11_bestWeight 23 rfl) 46 rfl ?_
    refine x_iload_n C rfl rfl (dkAt dk_X11_bestWeight 24 rfl) 47 rfl ?_
    refine x_iconst C (v := (0 : Int32)) (by decide) (dkAt dk_X11_bestWeight 25 rfl) 48 rfl ?_
    refine x_iconst C (v := (0 : Int32)) (by decide) (dkAt dk_X11_bestWeight 26 rfl) 49 rfl ?_
    refine x_iconst C (v := (0 : Int32)) (by decide) (dkAt dk_X11_bestWeight 27 rfl) 50 rfl ?_
    obtain ⟨v7, M8, h32, hf⟩ := cl_inv hf
    refine x_cSv C (c_X11_setWeights hN sh107 h32) mw_X11_setWeights ln_RX11_289 ms_X11_setWeights (ro_of (by decide) (by decide) (by decide) (by decide)) rfl rfl (Nat.le_of_ble_eq_true rfl) (dkAt dk_X11_bestWeight 28 rfl) 53 rfl 6 36 rfl rfl ?_
    refine x_iconst C (v := (-1 : Int32)) (by decide) (dkAt dk_X11_bestWeight 29 rfl) 54 rfl ?_
    refine x_istore C (L1 := [some (.ref (wad Γ 0)), some (.int p0), some (.int p1), some (.int p2), some (.int (-1 : Int32))]) (dkAt dk_X11_bestWeight 30 rfl) 56 rfl (by decide) rfl ?_
    refine x_ldc2 C (v := (-9223372036854775808 : Int64)) cl_RX11_272 (dkAt dk_X11_bestWeight 31 rfl) 59 rfl ?_
    refine x_lstore C (L1 := [some (.ref (wad Γ 0)), some (.int p0), some (.int p1), some (.int p2), some (.int (-1 : Int32)), some (.long (-9223372036854775808 : Int64))]) (dkAt dk_X11_bestWeight 32 rfl) 61 rfl (by decide) rfl ?_
    refine x_iconst C (v := (0 : Int32)) (by decide) (dkAt dk_X11_bestWeight 33 rfl) 62 rfl ?_
    refine x_istore C (L1 := [some (.ref (wad Γ 0)), some (.int p0), some (.int p1), some (.int p2), some (.int (-1 : Int32)), some (.long (-9223372036854775808 : Int64)), none, some (.int (0 : Int32))]) (dkAt dk_X11_bestWeight 34 rfl) 64 rfl (by decide) rfl ?_
    refine G.weak (L := [some (.ref (wad Γ 0)), some (.int p0), some (.int p1), some (.int p2), some (.int (-1 : Int32)), some (.long (-9223372036854775808 : Int64)), none, some (.int (0 : Int32))]) ⟨rfl, rfl, rfl, rfl, rfl, rfl, rfl, trivial⟩ ?_
    refine l_X11_bestWeight_L64 hN C E Z _ _ _ _ hf
  · exact t_throwW C E (n9 := 2) hf (by decide) (by decide) ⟨by decide, by decide, by decide, by decide⟩ (Nat.le_of_ble_eq_true rfl) (by decide) th_RX11_122_126.1 th_RX11_122_126.2.1 (hN.st (i := 28) rfl) th_RX11_122_126.2.2.1 th_RX11_122_126.2.2.2 (dkAt dk_X11_bestWeight 11 rfl) (dkAt dk_X11_bestWeight 12 rfl) (dkAt dk_X11_bestWeight 13 rfl) (dkAt dk_X11_bestWeight 14 rfl) (dkAt dk_X11_bestWeight 15 rfl)
def f_X11_seed (Z : Nat) (M : Mem)  : Option (Except Nat Int32 × Mem) :=
  clT (f_X11_needChain Z M) (fun v1 M2 => bd (gI M2 (10) 5) (fun v3 => some (.ok v3, M2))) pr
set_option maxRecDepth 100000 in
theorem c_X11_seed {Γ : WC} (hN : HN Γ) {Z : Nat} {M : Mem}  {rM : Except Nat Int32 × Mem}  (hf : f_X11_seed Z M  = some rM) : CtT Γ yX11_seed cX11_seed 1 (some .int) (rmL 7 1 6) [.ref (wad Γ 0)] M (fun v => some (.int v)) rM := by
  refine mkT hN.1 (own := RX11) rfl (by decide) (Nat.le_of_ble_eq_true rfl) (fun X C E => ?_)
  change G Γ X M 0 0 [some (.ref (wad Γ 0))] [] 0
  unfold f_X11_seed at hf
  refine x_aload_n C rfl rfl (dkAt dk_X11_seed 0 rfl) 1 rfl ?_
  refine t_cVv C E hf (fun r hr => c_X11_needChain hN hr) mw_X11_needChain ln_RX11_160 mi_X11_needChain (hN.rc (ci := 11) sh0 rc11) (ro_of (by decide) (by decide) (by decide) (by decide)) rfl rfl (Nat.le_of_ble_eq_true rfl) (dkAt dk_X11_seed 1 rfl) 4 rfl 1 6 rfl rfl (by decide) (by decide) (fun v1 M2 hf => ?_)
  refine x_aload_n C rfl rfl (dkAt dk_X11_seed 2 rfl) 5 rfl ?_
  refine x_getS C lk_RX11_42 (hN.sh sh0) (hN.sr sr0_3) (dkAt dk_X11_seed 3 rfl) 8 rfl ?_
  refine x_getI C lk_RX11_293 (hN.sh sh10) (dkAt dk_X11_seed 4 rfl) 11 rfl hf (fun v3 hf => ?_)
  exact t_iret C E hf (by decide) (by decide) (dkAt dk_X11_seed 5 rfl)
def f_X11_needWalk (Z : Nat) (M : Mem)  : Option (Except Nat Unit × Mem) :=
  clT (f_X11_needChain Z M) (fun v1 M2 => bd (gI M2 (10) 6) (fun v3 => (if v3 = (-1 : Int32) then some (.error 0, M2) else some (.ok (), M2)))) pr
set_option maxRecDepth 100000 in
theorem c_X11_needWalk {Γ : WC} (hN : HN Γ) {Z : Nat} {M : Mem}  {rM : Except Nat Unit × Mem}  (hf : f_X11_needWalk Z M  = some rM) : CtT Γ yX11_needWalk cX11_needWalk 1 none (rmL 7 2 12) [.ref (wad Γ 0)] M (fun _ => none) rM := by
  refine mkT hN.1 (own := RX11) rfl (by decide) (Nat.le_of_ble_eq_true rfl) (fun X C E => ?_)
  change G Γ X M 0 0 [some (.ref (wad Γ 0))] [] 0
  unfold f_X11_needWalk at hf
  refine x_aload_n C rfl rfl (dkAt dk_X11_needWalk 0 rfl) 1 rfl ?_
  refine t_cVv C E hf (fun r hr => c_X11_needChain hN hr) mw_X11_needChain ln_RX11_160 mi_X11_needChain (hN.rc (ci := 11) sh0 rc11) (ro_of (by decide) (by decide) (by decide) (by decide)) rfl rfl (Nat.le_of_ble_eq_true rfl) (dkAt dk_X11_needWalk 1 rfl) 4 rfl 1 6 rfl rfl (by decide) (by decide) (fun v1 M2 hf => ?_)
  refine x_aload_n C rfl rfl (dkAt dk_X11_needWalk 2 rfl) 5 rfl ?_
  refine x_getS C lk_RX11_42 (hN.sh sh0) (hN.sr sr0_3) (dkAt dk_X11_needWalk 3 rfl) 8 rfl ?_
  refine x_getI C lk_RX11_299 (hN.sh sh10) (dkAt dk_X11_needWalk 4 rfl) 11 rfl hf (fun v3 hf => ?_)
  refine x_iconst C (v := (-1 : Int32)) (by decide) (dkAt dk_X11_needWalk 5 rfl) 12 rfl ?_
  refine x_icmp_ne C 26 (dkAt dk_X11_needWalk 6 rfl) 15 rfl (by decide) hf (fun hf => ?_) (fun hf => ?_)
  · exact t_vret C E hf (by decide) (by decide) (dkAt dk_X11_needWalk 12 rfl)
  · exact t_throwW C E (n9 := 0) hf (by decide) (by decide) ⟨by decide, by decide, by decide, by decide⟩ (Nat.le_of_ble_eq_true rfl) (by decide) th_RX11_334_338.1 th_RX11_334_338.2.1 (hN.st (i := 29) rfl) th_RX11_334_338.2.2.1 th_RX11_334_338.2.2.2 (dkAt dk_X11_needWalk 7 rfl) (dkAt dk_X11_needWalk 8 rfl) (dkAt dk_X11_needWalk 9 rfl) (dkAt dk_X11_needWalk 10 rfl) (dkAt dk_X11_needWalk 11 rfl)
def f_X11_walked (Z : Nat) (M : Mem) (p0 : Int32) : Option (Except Nat Int32 × Mem) :=
  clT (f_X11_needWalk Z M) (fun v1 M2 => bd (gI M2 (10) 6) (fun v3 => clT (f_X11_needRange Z M2 p0 (0 : Int32) v3) (fun v4 M5 => rdI M5 14 6 p0 (fun v6 => some (.ok v6, M5))) pr)) pr
set_option maxRecDepth 100000 in
theorem c_X11_walked {Γ : WC} (hN : HN Γ) {Z : Nat} {M : Mem} {p0 : Int32} {rM : Except Nat Int32 × Mem}  (hf : f_X11_walked Z M p0 = some rM) : CtT Γ yX11_walked cX11_walked 2 (some .int) (rmL 8 3 18) [.ref (wad Γ 0), .int p0] M (fun v => some (.int v)) rM := by
  refine mkT hN.1 (own := RX11) rfl (by decide) (Nat.le_of_ble_eq_true rfl) (fun X C E => ?_)
  change G Γ X M 0 0 [some (.ref (wad Γ 0)), some (.int p0)] [] 0
  unfold f_X11_walked at hf
  refine x_aload_n C rfl rfl (dkAt dk_X11_walked 0 rfl) 1 rfl ?_
  refine t_cVv C E hf (fun r hr => c_X11_needWalk hN hr) mw_X11_needWalk ln_RX11_296 mi_X11_needWalk (hN.rc (ci := 11) sh0 rc11) (ro_of (by decide) (by decide) (by decide) (by decide)) rfl rfl (Nat.le_of_ble_eq_true rfl) (dkAt dk_X11_walked 1 rfl) 4 rfl 2 12 rfl rfl (by decide) (by decide) (fun v1 M2 hf => ?_)
  refine x_iload_n C rfl rfl (dkAt dk_X11_walked 2 rfl) 5 rfl ?_
  refine x_iconst C (v := (0 : Int32)) (by decide) (dkAt dk_X11_walked 3 rfl) 6 rfl ?_
  refine x_aload_n C rfl rfl (dkAt dk_X11_walked 4 rfl) 7 rfl ?_
  refine x_getS C lk_RX11_42 (hN.sh sh0) (hN.sr sr0_3) (dkAt dk_X11_walked 5 rfl) 10 rfl ?_
  refine x_getI C lk_RX11_299 (hN.sh sh10) (dkAt dk_X11_walked 6 rfl) 13 rfl hf (fun v3 hf => ?_)
  refine t_cSv C E hf (fun r hr => c_X11_needRange hN hr) mw_X11_needRange ln_RX11_212 ms_X11_needRange (ro_of (by decide) (by decide) (by decide) (by decide)) rfl rfl (Nat.le_of_ble_eq_true rfl) (dkAt dk_X11_walked 7 rfl) 16 rfl 3 18 rfl rfl (by decide) (by decide) (fun v4 M5 hf => ?_)
  refine x_aload_n C rfl rfl (dkAt dk_X11_walked 8 rfl) 17 rfl ?_
  refine x_getS C lk_RX11_42 (hN.sh sh0) (hN.sr sr0_3) (dkAt dk_X11_walked 9 rfl) 20 rfl ?_
  refine x_getS C lk_RX11_302 (hN.sh sh10) (hN.sr sr10_7) (dkAt dk_X11_walked 10 rfl) 23 rfl ?_
  refine x_iload_n C rfl rfl (dkAt dk_X11_walked 11 rfl) 24 rfl ?_
  refine x_iald C (hN.sh sh14) (dkAt dk_X11_walked 12 rfl) 25 rfl hf (fun v6 hf => ?_)
  exact t_iret C E hf (by decide) (by decide) (dkAt dk_X11_walked 13 rfl)
def f_X11_walkedBy (Z : Nat) (M : Mem) (p0 : Int32) : Option (Except Nat Int32 × Mem) :=
  clT (f_X11_needWalk Z M) (fun v1 M2 => bd (gI M2 (10) 6) (fun v3 => clT (f_X11_needRange Z M2 p0 (0 : Int32) (v3 - (1 : Int32))) (fun v4 M5 => rdI M5 15 5 p0 (fun v6 => some (.ok v6, M5))) pr)) pr
set_option maxRecDepth 100000 in
theorem c_X11_walkedBy {Γ : WC} (hN : HN Γ) {Z : Nat} {M : Mem} {p0 : Int32} {rM : Except Nat Int32 × Mem}  (hf : f_X11_walkedBy Z M p0 = some rM) : CtT Γ yX11_walkedBy cX11_walkedBy 2 (some .int) (rmL 8 3 18) [.ref (wad Γ 0), .int p0] M (fun v => some (.int v)) rM := by
  refine mkT hN.1 (own := RX11) rfl (by decide) (Nat.le_of_ble_eq_true rfl) (fun X C E => ?_)
  change G Γ X M 0 0 [some (.ref (wad Γ 0)), some (.int p0)] [] 0
  unfold f_X11_walkedBy at hf
  refine x_aload_n C rfl rfl (dkAt dk_X11_walkedBy 0 rfl) 1 rfl ?_
  refine t_cVv C E hf (fun r hr => c_X11_needWalk hN hr) mw_X11_needWalk ln_RX11_296 mi_X11_needWalk (hN.rc (ci := 11) sh0 rc11) (ro_of (by decide) (by decide) (by decide) (by decide)) rfl rfl (Nat.le_of_ble_eq_true rfl) (dkAt dk_X11_walkedBy 1 rfl) 4 rfl 2 12 rfl rfl (by decide) (by decide) (fun v1 M2 hf => ?_)
  refine x_iload_n C rfl rfl (dkAt dk_X11_walkedBy 2 rfl) 5 rfl ?_
  refine x_iconst C (v := (0 : Int32)) (by decide) (dkAt dk_X11_walkedBy 3 rfl) 6 rfl ?_
  refine x_aload_n C rfl rfl (dkAt dk_X11_walkedBy 4 rfl) 7 rfl ?_
  refine x_getS C lk_RX11_42 (hN.sh sh0) (hN.sr sr0_3) (dkAt dk_X11_walkedBy 5 rfl) 10 rfl ?_
  refine x_getI C lk_RX11_299 (hN.sh sh10) (dkAt dk_X11_walkedBy 6 rfl) 13 rfl hf (fun v3 hf => ?_)
  refine x_iconst C (v := (1 : Int32)) (by decide) (dkAt dk_X11_walkedBy 7 rfl) 14 rfl ?_
  refine x_isub C (dkAt dk_X11_walkedBy 8 rfl) 15 rfl ?_
  refine t_cSv C E hf (fun r hr => c_X11_needRange hN hr) mw_X11_needRange ln_RX11_212 ms_X11_needRange (ro_of (by decide) (by decide) (by decide) (by decide)) rfl rfl (Nat.le_of_ble_eq_true rfl) (dkAt dk_X11_walkedBy 9 rfl) 18 rfl 3 18 rfl rfl (by decide) (by decide) (fun v4 M5 hf => ?_)
  refine x_aload_n C rfl rfl (dkAt dk_X11_walkedBy 10 rfl) 19 rfl ?_
  refine x_getS C lk_RX11_42 (hN.sh sh0) (hN.sr sr0_3) (dkAt dk_X11_walkedBy 11 rfl) 22 rfl ?_
  refine x_getS C lk_RX11_305 (hN.sh sh10) (hN.sr sr10_8) (dkAt dk_X11_walkedBy 12 rfl) 25 rfl ?_
  refine x_iload_n C rfl rfl (dkAt dk_X11_walkedBy 13 rfl) 26 rfl ?_
  refine x_iald C (hN.sh sh15) (dkAt dk_X11_walkedBy 14 rfl) 27 rfl hf (fun v6 hf => ?_)
  exact t_iret C E hf (by decide) (by decide) (dkAt dk_X11_walkedBy 15 rfl)
def f_X11_walkGain_L8 (Z : Nat) : Nat → Int32 → Int32 → Mem → Option (Except Nat Int32 × Mem)
  | 0, _, _, _ => none
  | n + 1, x3, x4, M5 => bd (gI M5 (10) 6) (fun v6 => (if v6 ≤ x4 then some (.ok x3, M5) else cl (f_X7_walkRow Z M5 (10) x4) (fun v7 M8 => rdI M8 5 18 v7 (fun v9 => f_X11_walkGain_L8 Z n (x3 + v9) (x4 + (1 : Int32)) M8))))
def f_X11_walkGain (Z : Nat) (M : Mem)  : Option (Except Nat Int32 × Mem) :=
  clT (f_X11_needWalk Z M) (fun v1 M2 => f_X11_walkGain_L8 Z Z (0 : Int32) (0 : Int32) M2) pr
set_option maxRecDepth 100000 in
theorem l_X11_walkGain_L8 {Γ : WC} {X : MX} (hN : HN Γ) (C : CX Γ X cX11_walkGain 3 RX11 (some .int) (rmL 8 2 12)) {rM : Except Nat Int32 × Mem} (E : EndT Γ X (fun v => some (.int v)) rM 2 12) {Z : Nat} : ∀ (n : Nat) (x3 : Int32) (x4 : Int32) (M5 : Mem), f_X11_walkGain_L8 Z n x3 x4 M5 = some rM → G Γ X M5 2 12 [some (.ref (wad Γ 0)), some (.int x3), some (.int x4)] [] 8 := by
  intro n
  induction n with
  | zero =>
    intro x3 x4 M5 hf
    have hf0 : (none : Option _) = some rM := hf
    cases hf0
  | succ n ih =>
    intro x3 x4 M5 hf
    rw [f_X11_walkGain_L8] at hf
    refine x_iload_n C rfl rfl (dkAt dk_X11_walkGain 6 rfl) 9 rfl ?_
    refine x_aload_n C rfl rfl (dkAt dk_X11_walkGain 7 rfl) 10 rfl ?_
    refine x_getS C lk_RX11_42 (hN.sh sh0) (hN.sr sr0_3) (dkAt dk_X11_walkGain 8 rfl) 13 rfl ?_
    refine x_getI C lk_RX11_299 (hN.sh sh10) (dkAt dk_X11_walkGain 9 rfl) 16 rfl hf (fun v6 hf => ?_)
    refine x_icmp_ge C 44 (dkAt dk_X11_walkGain 10 rfl) 19 rfl (by decide) hf (fun hf => ?_) (fun hf => ?_)
    · refine x_iload_n C rfl rfl (dkAt dk_X11_walkGain 24 rfl) 45 rfl ?_
      exact t_iret C E hf (by decide) (by decide) (dkAt dk_X11_walkGain 25 rfl)
    · refine x_iload_n C rfl rfl (dkAt dk_X11_walkGain 11 rfl) 20 rfl ?_
      refine x_aload_n C rfl rfl (dkAt dk_X11_walkGain 12 rfl) 21 rfl ?_
      refine x_getS C lk_RX11_38 (hN.sh sh0) (hN.sr sr0_2) (dkAt dk_X11_walkGain 13 rfl) 24 rfl ?_
      refine x_getS C lk_RX11_176 (hN.sh sh3) (hN.sr sr3_3) (dkAt dk_X11_walkGain 14 rfl) 27 rfl ?_
      refine x_aload_n C rfl rfl (dkAt dk_X11_walkGain 15 rfl) 28 rfl ?_
      refine x_getS C lk_RX11_42 (hN.sh sh0) (hN.sr sr0_3) (dkAt dk_X11_walkGain 16 rfl) 31 rfl ?_
      refine x_iload_n C rfl rfl (dkAt dk_X11_walkGain 17 rfl) 32 rfl ?_
      obtain ⟨v7, M8, h10, hf⟩ := cl_inv hf
      refine x_cVi C (c_X7_walkRow hN sh10 h10) mw_X7_walkRow ln_RX11_308 mi_X7_walkRow (hN.rc (ci := 7) sh10 rc7) (ro_of (by decide) (by decide) (by decide) (by decide)) rfl rfl (Nat.le_of_ble_eq_true rfl) (dkAt dk_X11_walkGain 18 rfl) 35 rfl 2 12 rfl rfl ?_
      refine x_iald C (hN.sh sh5) (dkAt dk_X11_walkGain 19 rfl) 36 rfl hf (fun v9 hf => ?_)
      refine x_iadd C (dkAt dk_X11_walkGain 20 rfl) 37 rfl ?_
      refine x_istore_n C (L1 := [some (.ref (wad Γ 0)), some (.int (x3 + v9)), some (.int x4)]) (dkAt dk_X11_walkGain 21 rfl) 38 rfl rfl (by decide) rfl ?_
      refine x_iinc C (v := (x4 + (1 : Int32))) (L1 := [some (.ref (wad Γ 0)), some (.int (x3 + v9)), some (.int (x4 + (1 : Int32)))]) (dkAt dk_X11_walkGain 22 rfl) 41 rfl rfl rfl (by decide) rfl ?_
      refine x_goto C 8 (dkAt dk_X11_walkGain 23 rfl) (by decide) ?_
      exact G.weak (L := [some (.ref (wad Γ 0)), some (.int (x3 + v9)), some (.int (x4 + (1 : Int32)))]) ⟨rfl, rfl, rfl, trivial⟩ (ih _ _ _ hf)
set_option maxRecDepth 100000 in
theorem c_X11_walkGain {Γ : WC} (hN : HN Γ) {Z : Nat} {M : Mem}  {rM : Except Nat Int32 × Mem}  (hf : f_X11_walkGain Z M  = some rM) : CtT Γ yX11_walkGain cX11_walkGain 3 (some .int) (rmL 8 2 12) [.ref (wad Γ 0)] M (fun v => some (.int v)) rM := by
  refine mkT hN.1 (own := RX11) rfl (by decide) (Nat.le_of_ble_eq_true rfl) (fun X C E => ?_)
  change G Γ X M 0 0 [some (.ref (wad Γ 0))] [] 0
  unfold f_X11_walkGain at hf
  refine x_aload_n C rfl rfl (dkAt dk_X11_walkGain 0 rfl) 1 rfl ?_
  refine t_cVv C E hf (fun r hr => c_X11_needWalk hN hr) mw_X11_needWalk ln_RX11_296 mi_X11_needWalk (hN.rc (ci := 11) sh0 rc11) (ro_of (by decide) (by decide) (by decide) (by decide)) rfl rfl (Nat.le_of_ble_eq_true rfl) (dkAt dk_X11_walkGain 1 rfl) 4 rfl 2 12 rfl rfl (by decide) (by decide) (fun v1 M2 hf => ?_)
  refine x_iconst C (v := (0 : Int32)) (by decide) (dkAt dk_X11_walkGain 2 rfl) 5 rfl ?_
  refine x_istore_n C (L1 := [some (.ref (wad Γ 0)), some (.int (0 : Int32))]) (dkAt dk_X11_walkGain 3 rfl) 6 rfl rfl (by decide) rfl ?_
  refine x_iconst C (v := (0 : Int32)) (by decide) (dkAt dk_X11_walkGain 4 rfl) 7 rfl ?_
  refine x_istore_n C (L1 := [some (.ref (wad Γ 0)), some (.int (0 : Int32)), some (.int (0 : Int32))]) (dkAt dk_X11_walkGain 5 rfl) 8 rfl rfl (by decide) rfl ?_
  refine G.weak (L := [some (.ref (wad Γ 0)), some (.int (0 : Int32)), some (.int (0 : Int32))]) ⟨rfl, rfl, rfl, trivial⟩ ?_
  refine l_X11_walkGain_L8 hN C E Z _ _ _ hf
def f_X11_gainOfWalks_L30 (Z : Nat) (p0 : Int32) : Nat → Int32 → Int32 → Mem → Option (Except Nat Int32 × Mem)
  | 0, _, _, _ => none
  | n + 1, x7, x8, M9 => (if p0 ≤ x8 then some (.ok x7, M9) else cl (f_X10_gainOfNext Z M9) (fun v10 M11 => f_X11_gainOfWalks_L30 Z p0 n (x7 + v10) (x8 + (1 : Int32)) M11))
def f_X11_gainOfWalks (Z : Nat) (M : Mem) (p0 : Int32) : Option (Except Nat Int32 × Mem) :=
  clT (f_X11_needChain Z M) (fun v1 M2 => clT (f_X11_needRange Z M2 p0 (1 : Int32) (200 : Int32)) (fun v3 M4 => bd (gI M4 (10) 5) (fun v5 => bd (sI M4 (104) 1 v5) (fun M6 => f_X11_gainOfWalks_L30 Z p0 Z (0 : Int32) (0 : Int32) M6))) pr) pr
set_option maxRecDepth 100000 in
theorem l_X11_gainOfWalks_L30 {Γ : WC} {X : MX} (hN : HN Γ) (C : CX Γ X cX11_gainOfWalks 4 RX11 (some .int) (rmL 7 2 12)) {rM : Except Nat Int32 × Mem} (E : EndT Γ X (fun v => some (.int v)) rM 2 12) {Z : Nat} {p0 : Int32} : ∀ (n : Nat) (x7 : Int32) (x8 : Int32) (M9 : Mem), f_X11_gainOfWalks_L30 Z p0 n x7 x8 M9 = some rM → G Γ X M9 2 12 [some (.ref (wad Γ 0)), some (.int p0), some (.int x7), some (.int x8)] [] 30 := by
  intro n
  induction n with
  | zero =>
    intro x7 x8 M9 hf
    have hf0 : (none : Option _) = some rM := hf
    cases hf0
  | succ n ih =>
    intro x7 x8 M9 hf
    rw [f_X11_gainOfWalks_L30] at hf
    refine x_iload_n C rfl rfl (dkAt dk_X11_gainOfWalks 16 rfl) 31 rfl ?_
    refine x_iload_n C rfl rfl (dkAt dk_X11_gainOfWalks 17 rfl) 32 rfl ?_
    refine x_icmp_ge C 55 (dkAt dk_X11_gainOfWalks 18 rfl) 35 rfl (by decide) hf (fun hf => ?_) (fun hf => ?_)
    · refine x_iload_n C rfl rfl (dkAt dk_X11_gainOfWalks 29 rfl) 56 rfl ?_
      exact t_iret C E hf (by decide) (by decide) (dkAt dk_X11_gainOfWalks 30 rfl)
    · refine x_iload_n C rfl rfl (dkAt dk_X11_gainOfWalks 19 rfl) 36 rfl ?_
      refine x_aload_n C rfl rfl (dkAt dk_X11_gainOfWalks 20 rfl) 37 rfl ?_
      refine x_getS C lk_RX11_85 (hN.sh sh0) (hN.sr sr0_9) (dkAt dk_X11_gainOfWalks 21 rfl) 40 rfl ?_
      refine x_aload_n C rfl rfl (dkAt dk_X11_gainOfWalks 22 rfl) 41 rfl ?_
      refine x_getS C lk_RX11_42 (hN.sh sh0) (hN.sr sr0_3) (dkAt dk_X11_gainOfWalks 23 rfl) 44 rfl ?_
      obtain ⟨v10, M11, h12, hf⟩ := cl_inv hf
      refine x_cVi C (c_X10_gainOfNext hN h12) mw_X10_gainOfNext ln_RX11_312 mi_X10_gainOfNext (hN.rc (ci := 10) sh104 rc10) (ro_of (by decide) (by decide) (by decide) (by decide)) rfl rfl (Nat.le_of_ble_eq_true rfl) (dkAt dk_X11_gainOfWalks 24 rfl) 47 rfl 2 12 rfl rfl ?_
      refine x_iadd C (dkAt dk_X11_gainOfWalks 25 rfl) 48 rfl ?_
      refine x_istore_n C (L1 := [some (.ref (wad Γ 0)), some (.int p0), some (.int (x7 + v10)), some (.int x8)]) (dkAt dk_X11_gainOfWalks 26 rfl) 49 rfl rfl (by decide) rfl ?_
      refine x_iinc C (v := (x8 + (1 : Int32))) (L1 := [some (.ref (wad Γ 0)), some (.int p0), some (.int (x7 + v10)), some (.int (x8 + (1 : Int32)))]) (dkAt dk_X11_gainOfWalks 27 rfl) 52 rfl rfl rfl (by decide) rfl ?_
      refine x_goto C 30 (dkAt dk_X11_gainOfWalks 28 rfl) (by decide) ?_
      exact G.weak (L := [some (.ref (wad Γ 0)), some (.int p0), some (.int (x7 + v10)), some (.int (x8 + (1 : Int32)))]) ⟨rfl, rfl, rfl, rfl, trivial⟩ (ih _ _ _ hf)
set_option maxRecDepth 100000 in
theorem c_X11_gainOfWalks {Γ : WC} (hN : HN Γ) {Z : Nat} {M : Mem} {p0 : Int32} {rM : Except Nat Int32 × Mem}  (hf : f_X11_gainOfWalks Z M p0 = some rM) : CtT Γ yX11_gainOfWalks cX11_gainOfWalks 4 (some .int) (rmL 7 2 12) [.ref (wad Γ 0), .int p0] M (fun v => some (.int v)) rM := by
  refine mkT hN.1 (own := RX11) rfl (by decide) (Nat.le_of_ble_eq_true rfl) (fun X C E => ?_)
  change G Γ X M 0 0 [some (.ref (wad Γ 0)), some (.int p0)] [] 0
  unfold f_X11_gainOfWalks at hf
  refine x_aload_n C rfl rfl (dkAt dk_X11_gainOfWalks 0 rfl) 1 rfl ?_
  refine t_cVv C E hf (fun r hr => c_X11_needChain hN hr) mw_X11_needChain ln_RX11_160 mi_X11_needChain (hN.rc (ci := 11) sh0 rc11) (ro_of (by decide) (by decide) (by decide) (by decide)) rfl rfl (Nat.le_of_ble_eq_true rfl) (dkAt dk_X11_gainOfWalks 1 rfl) 4 rfl 1 6 rfl rfl (by decide) (by decide) (fun v1 M2 hf => ?_)
  refine x_iload_n C rfl rfl (dkAt dk_X11_gainOfWalks 2 rfl) 5 rfl ?_
  refine x_iconst C (v := (1 : Int32)) (by decide) (dkAt dk_X11_gainOfWalks 3 rfl) 6 rfl ?_
  refine x_sipush C (v := (200 : Int32)) (by decide) (dkAt dk_X11_gainOfWalks 4 rfl) 9 rfl ?_
  refine t_cSv C E hf (fun r hr => c_X11_needRange hN hr) mw_X11_needRange ln_RX11_212 ms_X11_needRange (ro_of (by decide) (by decide) (by decide) (by decide)) rfl rfl (Nat.le_of_ble_eq_true rfl) (dkAt dk_X11_gainOfWalks 5 rfl) 12 rfl 2 12 rfl rfl (by decide) (by decide) (fun v3 M4 hf => ?_)
  refine x_aload_n C rfl rfl (dkAt dk_X11_gainOfWalks 6 rfl) 13 rfl ?_
  refine x_getS C lk_RX11_85 (hN.sh sh0) (hN.sr sr0_9) (dkAt dk_X11_gainOfWalks 7 rfl) 16 rfl ?_
  refine x_aload_n C rfl rfl (dkAt dk_X11_gainOfWalks 8 rfl) 17 rfl ?_
  refine x_getS C lk_RX11_42 (hN.sh sh0) (hN.sr sr0_3) (dkAt dk_X11_gainOfWalks 9 rfl) 20 rfl ?_
  refine x_getI C lk_RX11_293 (hN.sh sh10) (dkAt dk_X11_gainOfWalks 10 rfl) 23 rfl hf (fun v5 hf => ?_)
  refine x_putI C pk_RX11_311 ⟨_, rfl⟩ (hN.sh sh104) (dkAt dk_X11_gainOfWalks 11 rfl) 26 rfl hf (fun M6 hf => ?_)
  refine x_iconst C (v := (0 : Int32)) (by decide) (dkAt dk_X11_gainOfWalks 12 rfl) 27 rfl ?_
  refine x_istore_n C (L1 := [some (.ref (wad Γ 0)), some (.int p0), some (.int (0 : Int32))]) (dkAt dk_X11_gainOfWalks 13 rfl) 28 rfl rfl (by decide) rfl ?_
  refine x_iconst C (v := (0 : Int32)) (by decide) (dkAt dk_X11_gainOfWalks 14 rfl) 29 rfl ?_
  refine x_istore_n C (L1 := [some (.ref (wad Γ 0)), some (.int p0), some (.int (0 : Int32)), some (.int (0 : Int32))]) (dkAt dk_X11_gainOfWalks 15 rfl) 30 rfl rfl (by decide) rfl ?_
  refine G.weak (L := [some (.ref (wad Γ 0)), some (.int p0), some (.int (0 : Int32)), some (.int (0 : Int32))]) ⟨rfl, rfl, rfl, rfl, trivial⟩ ?_
  refine l_X11_gainOfWalks_L30 hN C E Z _ _ _ hf
def f_X11_reportByte (Z : Nat) (M : Mem) (p0 : Int32) : Option (Except Nat Int32 × Mem) :=
  jn (fun (t1 : Unit) => some (.error 1, M)) (fun j2 => (if p0 < 0 then j2 () else bd (gI M (105) 1) (fun v3 => (if p0 < v3 then rdI M 106 114 p0 (fun v4 => some (.ok v4, M)) else j2 ()))))
set_option maxRecDepth 100000 in
theorem c_X11_reportByte {Γ : WC} (hN : HN Γ) {Z : Nat} {M : Mem} {p0 : Int32} {rM : Except Nat Int32 × Mem}  (hf : f_X11_reportByte Z M p0 = some rM) : CtT Γ yX11_reportByte cX11_reportByte 2 (some .int) (rmL 6 1 6) [.ref (wad Γ 0), .int p0] M (fun v => some (.int v)) rM := by
  refine mkT hN.1 (own := RX11) rfl (by decide) (Nat.le_of_ble_eq_true rfl) (fun X C E => ?_)
  change G Γ X M 0 0 [some (.ref (wad Γ 0)), some (.int p0)] [] 0
  unfold f_X11_reportByte at hf
  refine x_iload_n C rfl rfl (dkAt dk_X11_reportByte 0 rfl) 1 rfl ?_
  refine x_join hf (fun t1 => G Γ X M 0 0 [] [] 15) (fun t1 hf => ?_) (fun j2 hj2 hf => ?_)
  · exact t_throwW C E (n9 := 1) hf (by decide) (by decide) ⟨by decide, by decide, by decide, by decide⟩ (Nat.le_of_ble_eq_true rfl) (by decide) th_RX11_112_116.1 th_RX11_112_116.2.1 (hN.st (i := 30) rfl) th_RX11_112_116.2.2.1 th_RX11_112_116.2.2.2 (dkAt dk_X11_reportByte 7 rfl) (dkAt dk_X11_reportByte 8 rfl) (dkAt dk_X11_reportByte 9 rfl) (dkAt dk_X11_reportByte 10 rfl) (dkAt dk_X11_reportByte 11 rfl)
  · refine x_if_lt C 15 (dkAt dk_X11_reportByte 1 rfl) 4 rfl (by decide) hf (fun hf => ?_) (fun hf => ?_)
    · exact G.weak (L := []) trivial (hj2 _ hf)
    · refine x_iload_n C rfl rfl (dkAt dk_X11_reportByte 2 rfl) 5 rfl ?_
      refine x_aload_n C rfl rfl (dkAt dk_X11_reportByte 3 rfl) 6 rfl ?_
      refine x_getS C lk_RX11_92 (hN.sh sh0) (hN.sr sr0_10) (dkAt dk_X11_reportByte 4 rfl) 9 rfl ?_
      refine x_getI C lk_RX11_316 (hN.sh sh105) (dkAt dk_X11_reportByte 5 rfl) 12 rfl hf (fun v3 hf => ?_)
      refine x_icmp_lt C 26 (dkAt dk_X11_reportByte 6 rfl) 15 rfl (by decide) hf (fun hf => ?_) (fun hf => ?_)
      · refine x_aload_n C rfl rfl (dkAt dk_X11_reportByte 12 rfl) 27 rfl ?_
        refine x_getS C lk_RX11_92 (hN.sh sh0) (hN.sr sr0_10) (dkAt dk_X11_reportByte 13 rfl) 30 rfl ?_
        refine x_getS C lk_RX11_325 (hN.sh sh105) (hN.sr sr105_0) (dkAt dk_X11_reportByte 14 rfl) 33 rfl ?_
        refine x_iload_n C rfl rfl (dkAt dk_X11_reportByte 15 rfl) 34 rfl ?_
        refine x_bald C (hN.sh sh106) (dkAt dk_X11_reportByte 16 rfl) 35 rfl hf (fun v4 hf => ?_)
        exact t_iret C E hf (by decide) (by decide) (dkAt dk_X11_reportByte 17 rfl)
      · exact G.weak (L := []) trivial (hj2 _ hf)
def f_X11_setRule (Z : Nat) (M : Mem) (p0 : Int32) (p1 : Int32) (p2 : Int32) (p3 : Int32) : Option (Except Nat Int32 × Mem) :=
  clT (f_X11_needState Z M p0) (fun v1 M2 => clT (f_X11_needRange Z M2 p1 (0 : Int32) (10 : Int32)) (fun v3 M4 => rdI M4 4 6 p0 (fun v5 => jn (fun (t6 : Int32) => clT (f_X11_needRange Z M4 p2 (0 : Int32) t6) (fun v7 M8 => rdI M8 4 6 p0 (fun v9 => jn (fun (t10 : Int32) => clT (f_X11_needRange Z M8 p3 (0 : Int32) t10) (fun v11 M12 => (if ((p1 + p2) + p3) = (10 : Int32) then cl (f_X3_keep Z M12) (fun v13 M14 => cl (f_X11_setWeights Z M14 (11) p0 p1 p2 p3) (fun v15 M16 => cl (f_X11_brokenWith Z M16 (11)) (fun v17 M18 => some (.ok v17, M18)))) else some (.error 2, M12))) pr) (fun j22 => (if v9 ≤ (2 : Int32) then j22 (0 : Int32) else j22 (10 : Int32))))) pr) (fun j23 => (if v5 ≤ (1 : Int32) then j23 (0 : Int32) else j23 (10 : Int32))))) pr) pr
set_option maxRecDepth 100000 in
theorem c_X11_setRule {Γ : WC} (hN : HN Γ) {Z : Nat} {M : Mem} {p0 : Int32} {p1 : Int32} {p2 : Int32} {p3 : Int32} {rM : Except Nat Int32 × Mem}  (hf : f_X11_setRule Z M p0 p1 p2 p3 = some rM) : CtT Γ yX11_setRule cX11_setRule 5 (some .int) (rmL 8 6 36) [.ref (wad Γ 0), .int p0, .int p1, .int p2, .int p3] M (fun v => some (.int v)) rM := by
  refine mkT hN.1 (own := RX11) rfl (by decide) (Nat.le_of_ble_eq_true rfl) (fun X C E => ?_)
  change G Γ X M 0 0 [some (.ref (wad Γ 0)), some (.int p0), some (.int p1), some (.int p2), some (.int p3)] [] 0
  unfold f_X11_setRule at hf
  refine x_aload_n C rfl rfl (dkAt dk_X11_setRule 0 rfl) 1 rfl ?_
  refine x_iload_n C rfl rfl (dkAt dk_X11_setRule 1 rfl) 2 rfl ?_
  refine t_cVv C E hf (fun r hr => c_X11_needState hN hr) mw_X11_needState ln_RX11_166 mi_X11_needState (hN.rc (ci := 11) sh0 rc11) (ro_of (by decide) (by decide) (by decide) (by decide)) rfl rfl (Nat.le_of_ble_eq_true rfl) (dkAt dk_X11_setRule 2 rfl) 5 rfl 2 12 rfl rfl (by decide) (by decide) (fun v1 M2 hf => ?_)
  refine x_iload_n C rfl rfl (dkAt dk_X11_setRule 3 rfl) 6 rfl ?_
  refine x_iconst C (v := (0 : Int32)) (by decide) (dkAt dk_X11_setRule 4 rfl) 7 rfl ?_
  refine x_bipush C (v := (10 : Int32)) (by decide) (dkAt dk_X11_setRule 5 rfl) 9 rfl ?_
  refine t_cSv C E hf (fun r hr => c_X11_needRange hN hr) mw_X11_needRange ln_RX11_212 ms_X11_needRange (ro_of (by decide) (by decide) (by decide) (by decide)) rfl rfl (Nat.le_of_ble_eq_true rfl) (dkAt dk_X11_setRule 6 rfl) 12 rfl 3 18 rfl rfl (by decide) (by decide) (fun v3 M4 hf => ?_)
  refine x_iload_n C rfl rfl (dkAt dk_X11_setRule 7 rfl) 13 rfl ?_
  refine x_iconst C (v := (0 : Int32)) (by decide) (dkAt dk_X11_setRule 8 rfl) 14 rfl ?_
  refine x_aload_n C rfl rfl (dkAt dk_X11_setRule 9 rfl) 15 rfl ?_
  refine x_getS C lk_RX11_38 (hN.sh sh0) (hN.sr sr0_2) (dkAt dk_X11_setRule 10 rfl) 18 rfl ?_
  refine x_getS C lk_RX11_169 (hN.sh sh3) (hN.sr sr3_2) (dkAt dk_X11_setRule 11 rfl) 21 rfl ?_
  refine x_iload_n C rfl rfl (dkAt dk_X11_setRule 12 rfl) 22 rfl ?_
  refine x_iald C (hN.sh sh4) (dkAt dk_X11_setRule 13 rfl) 23 rfl hf (fun v5 hf => ?_)
  refine x_iconst C (v := (1 : Int32)) (by decide) (dkAt dk_X11_setRule 14 rfl) 24 rfl ?_
  refine x_join hf (fun t6 => G Γ X M4 3 18 [some (.ref (wad Γ 0)), some (.int p0), some (.int p1), some (.int p2), some (.int p3)] [.int t6, .int (0 : Int32), .int p2] 33) (fun t6 hf => ?_) (fun j23 hj23 hf => ?_)
  · refine t_cSv C E hf (fun r hr => c_X11_needRange hN hr) mw_X11_needRange ln_RX11_212 ms_X11_needRange (ro_of (by decide) (by decide) (by decide) (by decide)) rfl rfl (Nat.le_of_ble_eq_true rfl) (dkAt dk_X11_setRule 19 rfl) 36 rfl 4 24 rfl rfl (by decide) (by decide) (fun v7 M8 hf => ?_)
    refine x_iload C rfl (dkAt dk_X11_setRule 20 rfl) 38 rfl ?_
    refine x_iconst C (v := (0 : Int32)) (by decide) (dkAt dk_X11_setRule 21 rfl) 39 rfl ?_
    refine x_aload_n C rfl rfl (dkAt dk_X11_setRule 22 rfl) 40 rfl ?_
    refine x_getS C lk_RX11_38 (hN.sh sh0) (hN.sr sr0_2) (dkAt dk_X11_setRule 23 rfl) 43 rfl ?_
    refine x_getS C lk_RX11_169 (hN.sh sh3) (hN.sr sr3_2) (dkAt dk_X11_setRule 24 rfl) 46 rfl ?_
    refine x_iload_n C rfl rfl (dkAt dk_X11_setRule 25 rfl) 47 rfl ?_
    refine x_iald C (hN.sh sh4) (dkAt dk_X11_setRule 26 rfl) 48 rfl hf (fun v9 hf => ?_)
    refine x_iconst C (v := (2 : Int32)) (by decide) (dkAt dk_X11_setRule 27 rfl) 49 rfl ?_
    refine x_join hf (fun t10 => G Γ X M8 4 24 [some (.ref (wad Γ 0)), some (.int p0), some (.int p1), some (.int p2), some (.int p3)] [.int t10, .int (0 : Int32), .int p3] 58) (fun t10 hf => ?_) (fun j22 hj22 hf => ?_)
    · refine t_cSv C E hf (fun r hr => c_X11_needRange hN hr) mw_X11_needRange ln_RX11_212 ms_X11_needRange (ro_of (by decide) (by decide) (by decide) (by decide)) rfl rfl (Nat.le_of_ble_eq_true rfl) (dkAt dk_X11_setRule 32 rfl) 61 rfl 5 30 rfl rfl (by decide) (by decide) (fun v11 M12 hf => ?_)
      refine x_iload_n C rfl rfl (dkAt dk_X11_setRule 33 rfl) 62 rfl ?_
      refine x_iload_n C rfl rfl (dkAt dk_X11_setRule 34 rfl) 63 rfl ?_
      refine x_iadd C (dkAt dk_X11_setRule 35 rfl) 64 rfl ?_
      refine x_iload C rfl (dkAt dk_X11_setRule 36 rfl) 66 rfl ?_
      refine x_iadd C (dkAt dk_X11_setRule 37 rfl) 67 rfl ?_
      refine x_bipush C (v := (10 : Int32)) (by decide) (dkAt dk_X11_setRule 38 rfl) 69 rfl ?_
      refine x_icmp_eq C 83 (dkAt dk_X11_setRule 39 rfl) 72 rfl (by decide) hf (fun hf => ?_) (fun hf => ?_)
      · refine x_aload_n C rfl rfl (dkAt dk_X11_setRule 45 rfl) 84 rfl ?_
        refine x_getS C lk_RX11_49 (hN.sh sh0) (hN.sr sr0_4) (dkAt dk_X11_setRule 46 rfl) 87 rfl ?_
        refine x_aload_n C rfl rfl (dkAt dk_X11_setRule 47 rfl) 88 rfl ?_
        refine x_getS C lk_RX11_42 (hN.sh sh0) (hN.sr sr0_3) (dkAt dk_X11_setRule 48 rfl) 91 rfl ?_
        obtain ⟨v13, M14, h21, hf⟩ := cl_inv hf
        refine x_cVv C (c_X3_keep hN h21) mw_X3_keep ln_RX11_331 mi_X3_keep (hN.rc (ci := 3) sh35 rc3) (ro_of (by decide) (by decide) (by decide) (by decide)) rfl rfl (Nat.le_of_ble_eq_true rfl) (dkAt dk_X11_setRule 49 rfl) 94 rfl 5 30 rfl rfl ?_
        refine x_aload_n C rfl rfl (dkAt dk_X11_setRule 50 rfl) 95 rfl ?_
        refine x_getS C lk_RX11_42 (hN.sh sh0) (hN.sr sr0_3) (dkAt dk_X11_setRule 51 rfl) 98 rfl ?_
        refine x_getS C lk_RX11_192 (hN.sh sh10) (hN.sr sr10_0) (dkAt dk_X11_setRule 52 rfl) 101 rfl ?_
        refine x_iload_n C rfl rfl (dkAt dk_X11_setRule 53 rfl) 102 rfl ?_
        refine x_iload_n C rfl rfl (dkAt dk_X11_setRule 54 rfl) 103 rfl ?_
        refine x_iload_n C rfl rfl (dkAt dk_X11_setRule 55 rfl) 104 rfl ?_
        refine x_iload C rfl (dkAt dk_X11_setRule 56 rfl) 106 rfl ?_
        obtain ⟨v15, M16, h20, hf⟩ := cl_inv hf
        refine x_cSv C (c_X11_setWeights hN sh11 h20) mw_X11_setWeights ln_RX11_289 ms_X11_setWeights (ro_of (by decide) (by decide) (by decide) (by decide)) rfl rfl (Nat.le_of_ble_eq_true rfl) (dkAt dk_X11_setRule 57 rfl) 109 rfl 5 30 rfl rfl ?_
        refine x_aload_n C rfl rfl (dkAt dk_X11_setRule 58 rfl) 110 rfl ?_
        refine x_aload_n C rfl rfl (dkAt dk_X11_setRule 59 rfl) 111 rfl ?_
        refine x_getS C lk_RX11_42 (hN.sh sh0) (hN.sr sr0_3) (dkAt dk_X11_setRule 60 rfl) 114 rfl ?_
        refine x_getS C lk_RX11_192 (hN.sh sh10) (hN.sr sr10_0) (dkAt dk_X11_setRule 61 rfl) 117 rfl ?_
        obtain ⟨v17, M18, h19, hf⟩ := cl_inv hf
        refine x_cVi C (c_X11_brokenWith hN sh11 h19) mw_X11_brokenWith ln_RX11_238 mi_X11_brokenWith (hN.rc (ci := 11) sh0 rc11) (ro_of (by decide) (by decide) (by decide) (by decide)) rfl rfl (Nat.le_of_ble_eq_true rfl) (dkAt dk_X11_setRule 62 rfl) 120 rfl 5 30 rfl rfl ?_
        exact t_iret C E hf (by decide) (by decide) (dkAt dk_X11_setRule 63 rfl)
      · exact t_throwW C E (n9 := 2) hf (by decide) (by decide) ⟨by decide, by decide, by decide, by decide⟩ (Nat.le_of_ble_eq_true rfl) (by decide) th_RX11_122_126.1 th_RX11_122_126.2.1 (hN.st (i := 31) rfl) th_RX11_122_126.2.2.1 th_RX11_122_126.2.2.2 (dkAt dk_X11_setRule 40 rfl) (dkAt dk_X11_setRule 41 rfl) (dkAt dk_X11_setRule 42 rfl) (dkAt dk_X11_setRule 43 rfl) (dkAt dk_X11_setRule 44 rfl)
    · refine x_icmp_le C 57 (dkAt dk_X11_setRule 28 rfl) 52 rfl (by decide) hf (fun hf => ?_) (fun hf => ?_)
      · refine x_iconst C (v := (0 : Int32)) (by decide) (dkAt dk_X11_setRule 31 rfl) 58 rfl ?_
        exact G.weak (L := [some (.ref (wad Γ 0)), some (.int p0), some (.int p1), some (.int p2), some (.int p3)]) ⟨rfl, rfl, rfl, rfl, rfl, trivial⟩ (hj22 _ hf)
      · refine x_bipush C (v := (10 : Int32)) (by decide) (dkAt dk_X11_setRule 29 rfl) 54 rfl ?_
        refine x_goto C 58 (dkAt dk_X11_setRule 30 rfl) (by decide) ?_
        exact G.weak (L := [some (.ref (wad Γ 0)), some (.int p0), some (.int p1), some (.int p2), some (.int p3)]) ⟨rfl, rfl, rfl, rfl, rfl, trivial⟩ (hj22 _ hf)
  · refine x_icmp_le C 32 (dkAt dk_X11_setRule 15 rfl) 27 rfl (by decide) hf (fun hf => ?_) (fun hf => ?_)
    · refine x_iconst C (v := (0 : Int32)) (by decide) (dkAt dk_X11_setRule 18 rfl) 33 rfl ?_
      exact G.weak (L := [some (.ref (wad Γ 0)), some (.int p0), some (.int p1), some (.int p2), some (.int p3)]) ⟨rfl, rfl, rfl, rfl, rfl, trivial⟩ (hj23 _ hf)
    · refine x_bipush C (v := (10 : Int32)) (by decide) (dkAt dk_X11_setRule 16 rfl) 29 rfl ?_
      refine x_goto C 33 (dkAt dk_X11_setRule 17 rfl) (by decide) ?_
      exact G.weak (L := [some (.ref (wad Γ 0)), some (.int p0), some (.int p1), some (.int p2), some (.int p3)]) ⟨rfl, rfl, rfl, rfl, rfl, trivial⟩ (hj23 _ hf)
def f_X11_takeBest_L46 (Z : Nat) (k : Int32 → Mem → Option (Except Nat Int32 × Mem)) : Nat → Int32 → Int32 → Mem → Option (Except Nat Int32 × Mem)
  | 0, _, _, _ => none
  | n + 1, x7, x8, M9 => bd (gI M9 (3) 0) (fun v10 => (if v10 ≤ x8 then k x7 M9 else rdI M9 101 6 x8 (fun v11 => cl (f_X11_rowOf Z M9 x8 v11) (fun v12 M13 => rdI M13 11 18 v12 (fun v14 => jn (fun (t15 : Int32) => f_X11_takeBest_L46 Z k n t15 (x8 + (1 : Int32)) M13) (fun j16 => (if v14 = (10 : Int32) then j16 x7 else j16 (x7 + (1 : Int32)))))))))
def f_X11_takeBest (Z : Nat) (M : Mem)  : Option (Except Nat Int32 × Mem) :=
  clT (f_X11_needChain Z M) (fun v1 M2 => cl (f_X5_findBest Z M2 (-1 : Int32) (0 : Int32)) (fun v3 M4 => (if v3 = (-9223372036854775808 : Int64) then some (.error 0, M4) else cl (f_X3_keep Z M4) (fun v5 M6 => f_X11_takeBest_L46 Z (fun (y18 : Int32) (M19 : Mem) => cl (f_X5_writeWeights Z M19 (101) (11)) (fun v20 M21 => some (.ok y18, M21))) Z (0 : Int32) (0 : Int32) M6)))) pr
set_option maxRecDepth 100000 in
theorem l_X11_takeBest_L46 {Γ : WC} {X : MX} (hN : HN Γ) (C : CX Γ X cX11_takeBest 3 RX11 (some .int) (rmL 7 2 12)) {rM : Except Nat Int32 × Mem} (E : EndT Γ X (fun v => some (.int v)) rM 2 12) {Z : Nat} {k : Int32 → Mem → Option (Except Nat Int32 × Mem)} (hk : ∀ (a1 : Int32) (Mx : Mem), k a1 Mx = some rM → G Γ X Mx 1 6 [some (.ref (wad Γ 0)), some (.int a1)] [] 92) : ∀ (n : Nat) (x7 : Int32) (x8 : Int32) (M9 : Mem), f_X11_takeBest_L46 Z k n x7 x8 M9 = some rM → G Γ X M9 1 6 [some (.ref (wad Γ 0)), some (.int x7), some (.int x8)] [] 46 := by
  intro n
  induction n with
  | zero =>
    intro x7 x8 M9 hf
    have hf0 : (none : Option _) = some rM := hf
    cases hf0
  | succ n ih =>
    intro x7 x8 M9 hf
    rw [f_X11_takeBest_L46] at hf
    refine x_iload_n C rfl rfl (dkAt dk_X11_takeBest 24 rfl) 47 rfl ?_
    refine x_aload_n C rfl rfl (dkAt dk_X11_takeBest 25 rfl) 48 rfl ?_
    refine x_getS C lk_RX11_38 (hN.sh sh0) (hN.sr sr0_2) (dkAt dk_X11_takeBest 26 rfl) 51 rfl ?_
    refine x_getI C lk_RX11_151 (hN.sh sh3) (dkAt dk_X11_takeBest 27 rfl) 54 rfl hf (fun v10 hf => ?_)
    refine x_icmp_ge C 92 (dkAt dk_X11_takeBest 28 rfl) 57 rfl (by decide) hf (fun hf => ?_) (fun hf => ?_)
    · exact G.weak (L := [some (.ref (wad Γ 0)), some (.int x7)]) ⟨rfl, rfl, trivial⟩ (hk _ _ hf)
    · refine x_aload_n C rfl rfl (dkAt dk_X11_takeBest 29 rfl) 58 rfl ?_
      refine x_getS C lk_RX11_42 (hN.sh sh0) (hN.sr sr0_3) (dkAt dk_X11_takeBest 30 rfl) 61 rfl ?_
      refine x_getS C lk_RX11_192 (hN.sh sh10) (hN.sr sr10_0) (dkAt dk_X11_takeBest 31 rfl) 64 rfl ?_
      refine x_iload_n C rfl rfl (dkAt dk_X11_takeBest 32 rfl) 65 rfl ?_
      refine x_aload_n C rfl rfl (dkAt dk_X11_takeBest 33 rfl) 66 rfl ?_
      refine x_getS C lk_RX11_69 (hN.sh sh0) (hN.sr sr0_7) (dkAt dk_X11_takeBest 34 rfl) 69 rfl ?_
      refine x_getS C lk_RX11_274 (hN.sh sh96) (hN.sr sr96_10) (dkAt dk_X11_takeBest 35 rfl) 72 rfl ?_
      refine x_iload_n C rfl rfl (dkAt dk_X11_takeBest 36 rfl) 73 rfl ?_
      refine x_iald C (hN.sh sh101) (dkAt dk_X11_takeBest 37 rfl) 74 rfl hf (fun v11 hf => ?_)
      obtain ⟨v12, M13, h17, hf⟩ := cl_inv hf
      refine x_cSi C (c_X11_rowOf hN h17) mw_X11_rowOf ln_RX11_179 ms_X11_rowOf (ro_of (by decide) (by decide) (by decide) (by decide)) rfl rfl (Nat.le_of_ble_eq_true rfl) (dkAt dk_X11_takeBest 38 rfl) 77 rfl 1 6 rfl rfl ?_
      refine x_iald C (hN.sh sh11) (dkAt dk_X11_takeBest 39 rfl) 78 rfl hf (fun v14 hf => ?_)
      refine x_bipush C (v := (10 : Int32)) (by decide) (dkAt dk_X11_takeBest 40 rfl) 80 rfl ?_
      refine x_join hf (fun t15 => G Γ X M13 1 6 [some (.ref (wad Γ 0)), some (.int t15), some (.int x8)] [] 86) (fun t15 hf => ?_) (fun j16 hj16 hf => ?_)
      · refine x_iinc C (v := (x8 + (1 : Int32))) (L1 := [some (.ref (wad Γ 0)), some (.int t15), some (.int (x8 + (1 : Int32)))]) (dkAt dk_X11_takeBest 43 rfl) 89 rfl rfl rfl (by decide) rfl ?_
        refine x_goto C 46 (dkAt dk_X11_takeBest 44 rfl) (by decide) ?_
        exact G.weak (L := [some (.ref (wad Γ 0)), some (.int t15), some (.int (x8 + (1 : Int32)))]) ⟨rfl, rfl, rfl, trivial⟩ (ih _ _ _ hf)
      · refine x_icmp_eq C 86 (dkAt dk_X11_takeBest 41 rfl) 83 rfl (by decide) hf (fun hf => ?_) (fun hf => ?_)
        · exact G.weak (L := [some (.ref (wad Γ 0)), some (.int x7), some (.int x8)]) ⟨rfl, rfl, rfl, trivial⟩ (hj16 _ hf)
        · refine x_iinc C (v := (x7 + (1 : Int32))) (L1 := [some (.ref (wad Γ 0)), some (.int (x7 + (1 : Int32))), some (.int x8)]) (dkAt dk_X11_takeBest 42 rfl) 86 rfl rfl rfl (by decide) rfl ?_
          exact G.weak (L := [some (.ref (wad Γ 0)), some (.int (x7 + (1 : Int32))), some (.int x8)]) ⟨rfl, rfl, rfl, trivial⟩ (hj16 _ hf)
set_option maxRecDepth 100000 in
theorem c_X11_takeBest {Γ : WC} (hN : HN Γ) {Z : Nat} {M : Mem}  {rM : Except Nat Int32 × Mem}  (hf : f_X11_takeBest Z M  = some rM) : CtT Γ yX11_takeBest cX11_takeBest 3 (some .int) (rmL 7 2 12) [.ref (wad Γ 0)] M (fun v => some (.int v)) rM := by
  refine mkT hN.1 (own := RX11) rfl (by decide) (Nat.le_of_ble_eq_true rfl) (fun X C E => ?_)
  change G Γ X M 0 0 [some (.ref (wad Γ 0))] [] 0
  unfold f_X11_takeBest at hf
  refine x_aload_n C rfl rfl (dkAt dk_X11_takeBest 0 rfl) 1 rfl ?_
  refine t_cVv C E hf (fun r hr => c_X11_needChain hN hr) mw_X11_needChain ln_RX11_160 mi_X11_needChain (hN.rc (ci := 11) sh0 rc11) (ro_of (by decide) (by decide) (by decide) (by decide)) rfl rfl (Nat.le_of_ble_eq_true rfl) (dkAt dk_X11_takeBest 1 rfl) 4 rfl 1 6 rfl rfl (by decide) (by decide) (fun v1 M2 hf => ?_)
  refine x_aload_n C rfl rfl (dkAt dk_X11_takeBest 2 rfl) 5 rfl ?_
  refine x_getS C lk_RX11_69 (hN.sh sh0) (hN.sr sr0_7) (dkAt dk_X11_takeBest 3 rfl) 8 rfl ?_
  refine x_iconst C (v := (-1 : Int32)) (by decide) (dkAt dk_X11_takeBest 4 rfl) 9 rfl ?_
  refine x_iconst C (v := (0 : Int32)) (by decide) (dkAt dk_X11_takeBest 5 rfl) 10 rfl ?_
  obtain ⟨v3, M4, h24, hf⟩ := cl_inv hf
  refine x_cVl C (c_X5_findBest hN h24) mw_X5_findBest ln_RX11_269 mi_X5_findBest (hN.rc (ci := 5) sh96 rc5) (ro_of (by decide) (by decide) (by decide) (by decide)) rfl rfl (Nat.le_of_ble_eq_true rfl) (dkAt dk_X11_takeBest 6 rfl) 13 rfl 1 6 rfl rfl ?_
  refine x_ldc2 C (v := (-9223372036854775808 : Int64)) cl_RX11_272 (dkAt dk_X11_takeBest 7 rfl) 16 rfl ?_
  refine x_lcmp_ne C 31 (dkAt dk_X11_takeBest 8 rfl) 20 rfl (dkAt dk_X11_takeBest 9 rfl) (by decide) hf (fun hf => ?_) (fun hf => ?_)
  · refine x_aload_n C rfl rfl (dkAt dk_X11_takeBest 15 rfl) 32 rfl ?_
    refine x_getS C lk_RX11_49 (hN.sh sh0) (hN.sr sr0_4) (dkAt dk_X11_takeBest 16 rfl) 35 rfl ?_
    refine x_aload_n C rfl rfl (dkAt dk_X11_takeBest 17 rfl) 36 rfl ?_
    refine x_getS C lk_RX11_42 (hN.sh sh0) (hN.sr sr0_3) (dkAt dk_X11_takeBest 18 rfl) 39 rfl ?_
    obtain ⟨v5, M6, h23, hf⟩ := cl_inv hf
    refine x_cVv C (c_X3_keep hN h23) mw_X3_keep ln_RX11_331 mi_X3_keep (hN.rc (ci := 3) sh35 rc3) (ro_of (by decide) (by decide) (by decide) (by decide)) rfl rfl (Nat.le_of_ble_eq_true rfl) (dkAt dk_X11_takeBest 19 rfl) 42 rfl 1 6 rfl rfl ?_
    refine x_iconst C (v := (0 : Int32)) (by decide) (dkAt dk_X11_takeBest 20 rfl) 43 rfl ?_
    refine x_istore_n C (L1 := [some (.ref (wad Γ 0)), some (.int (0 : Int32))]) (dkAt dk_X11_takeBest 21 rfl) 44 rfl rfl (by decide) rfl ?_
    refine x_iconst C (v := (0 : Int32)) (by decide) (dkAt dk_X11_takeBest 22 rfl) 45 rfl ?_
    refine x_istore_n C (L1 := [some (.ref (wad Γ 0)), some (.int (0 : Int32)), some (.int (0 : Int32))]) (dkAt dk_X11_takeBest 23 rfl) 46 rfl rfl (by decide) rfl ?_
    refine G.weak (L := [some (.ref (wad Γ 0)), some (.int (0 : Int32)), some (.int (0 : Int32))]) ⟨rfl, rfl, rfl, trivial⟩ ?_
    refine l_X11_takeBest_L46 hN C E ?_ Z _ _ _ hf
    intro y18 M19 hf
    refine x_aload_n C rfl rfl (dkAt dk_X11_takeBest 45 rfl) 93 rfl ?_
    refine x_getS C lk_RX11_69 (hN.sh sh0) (hN.sr sr0_7) (dkAt dk_X11_takeBest 46 rfl) 96 rfl ?_
    refine x_aload_n C rfl rfl (dkAt dk_X11_takeBest 47 rfl) 97 rfl ?_
    refine x_getS C lk_RX11_69 (hN.sh sh0) (hN.sr sr0_7) (dkAt dk_X11_takeBest 48 rfl) 100 rfl ?_
    refine x_getS C lk_RX11_274 (hN.sh sh96) (hN.sr sr96_10) (dkAt dk_X11_takeBest 49 rfl) 103 rfl ?_
    refine x_aload_n C rfl rfl (dkAt dk_X11_takeBest 50 rfl) 104 rfl ?_
    refine x_getS C lk_RX11_42 (hN.sh sh0) (hN.sr sr0_3) (dkAt dk_X11_takeBest 51 rfl) 107 rfl ?_
    refine x_getS C lk_RX11_192 (hN.sh sh10) (hN.sr sr10_0) (dkAt dk_X11_takeBest 52 rfl) 110 rfl ?_
    obtain ⟨v20, M21, h22, hf⟩ := cl_inv hf
    refine x_cVv C (c_X5_writeWeights hN sh101 sh11 h22) mw_X5_writeWeights ln_RX11_339 mi_X5_writeWeights (hN.rc (ci := 5) sh96 rc5) (ro_of (by decide) (by decide) (by decide) (by decide)) rfl rfl (Nat.le_of_ble_eq_true rfl) (dkAt dk_X11_takeBest 53 rfl) 113 rfl 1 6 rfl rfl ?_
    refine x_iload_n C rfl rfl (dkAt dk_X11_takeBest 54 rfl) 114 rfl ?_
    exact t_iret C E hf (by decide) (by decide) (dkAt dk_X11_takeBest 55 rfl)
  · exact t_throwW C E (n9 := 0) hf (by decide) (by decide) ⟨by decide, by decide, by decide, by decide⟩ (Nat.le_of_ble_eq_true rfl) (by decide) th_RX11_334_338.1 th_RX11_334_338.2.1 (hN.st (i := 32) rfl) th_RX11_334_338.2.2.1 th_RX11_334_338.2.2.2 (dkAt dk_X11_takeBest 10 rfl) (dkAt dk_X11_takeBest 11 rfl) (dkAt dk_X11_takeBest 12 rfl) (dkAt dk_X11_takeBest 13 rfl) (dkAt dk_X11_takeBest 14 rfl)
def f_X11_permit (Z : Nat) (M : Mem) (p0 : Int32) (p1 : Int32) (p2 : Int32) : Option (Except Nat Int32 × Mem) :=
  clT (f_X11_needAction Z M p0 p1) (fun v1 M2 => rdI M2 12 6 p0 (fun v3 => jn (fun (t4 : Unit) => cl (f_X7_permits Z M2 (10) p0 p1) (fun v5 M6 => cl (f_X3_keep Z M6) (fun v7 M8 => (if p2 = 0 then wrI M8 12 6 p0 (v3 &&& (((1 : Int32) <<< (p1 &&& 31)) ^^^ (-1 : Int32))) (fun M9 => (if v5 &&& 1 = v5 then some (.ok v5, M9) else none)) else wrI M8 12 6 p0 ((v3 &&& (((1 : Int32) <<< (p1 &&& 31)) ^^^ (-1 : Int32))) ||| ((1 : Int32) <<< (p1 &&& 31))) (fun M10 => (if v5 &&& 1 = v5 then some (.ok v5, M10) else none)))))) (fun j13 => (if p2 = 0 then rdI M2 4 6 p0 (fun v14 => (if ((v3 &&& (((1 : Int32) <<< (p1 &&& 31)) ^^^ (-1 : Int32))) &&& (((1 : Int32) <<< (v14 &&& 31)) - (1 : Int32))) = 0 then some (.error 2, M2) else j13 ())) else j13 ())))) pr
set_option maxRecDepth 100000 in
theorem c_X11_permit {Γ : WC} (hN : HN Γ) {Z : Nat} {M : Mem} {p0 : Int32} {p1 : Int32} {p2 : Int32} {rM : Except Nat Int32 × Mem}  (hf : f_X11_permit Z M p0 p1 p2 = some rM) : CtT Γ yX11_permit cX11_permit 6 (some .boolean) (rmL 9 4 24) [.ref (wad Γ 0), .int p0, .int p1, .int p2] M (fun v => some (.int v)) rM := by
  refine mkT hN.1 (own := RX11) rfl (by decide) (Nat.le_of_ble_eq_true rfl) (fun X C E => ?_)
  change G Γ X M 0 0 [some (.ref (wad Γ 0)), some (.int p0), some (.int p1), some (.int p2)] [] 0
  unfold f_X11_permit at hf
  refine x_aload_n C rfl rfl (dkAt dk_X11_permit 0 rfl) 1 rfl ?_
  refine x_iload_n C rfl rfl (dkAt dk_X11_permit 1 rfl) 2 rfl ?_
  refine x_iload_n C rfl rfl (dkAt dk_X11_permit 2 rfl) 3 rfl ?_
  refine t_cVv C E hf (fun r hr => c_X11_needAction hN hr) mw_X11_needAction ln_RX11_172 mi_X11_needAction (hN.rc (ci := 11) sh0 rc11) (ro_of (by decide) (by decide) (by decide) (by decide)) rfl rfl (Nat.le_of_ble_eq_true rfl) (dkAt dk_X11_permit 3 rfl) 6 rfl 3 18 rfl rfl (by decide) (by decide) (fun v1 M2 hf => ?_)
  refine x_aload_n C rfl rfl (dkAt dk_X11_permit 4 rfl) 7 rfl ?_
  refine x_getS C lk_RX11_42 (hN.sh sh0) (hN.sr sr0_3) (dkAt dk_X11_permit 5 rfl) 10 rfl ?_
  refine x_getS C lk_RX11_342 (hN.sh sh10) (hN.sr sr10_1) (dkAt dk_X11_permit 6 rfl) 13 rfl ?_
  refine x_iload_n C rfl rfl (dkAt dk_X11_permit 7 rfl) 14 rfl ?_
  refine x_iald C (hN.sh sh12) (dkAt dk_X11_permit 8 rfl) 15 rfl hf (fun v3 hf => ?_)
  refine x_iconst C (v := (1 : Int32)) (by decide) (dkAt dk_X11_permit 9 rfl) 16 rfl ?_
  refine x_iload_n C rfl rfl (dkAt dk_X11_permit 10 rfl) 17 rfl ?_
  refine x_ishl C (dkAt dk_X11_permit 11 rfl) 18 rfl ?_
  refine x_iconst C (v := (-1 : Int32)) (by decide) (dkAt dk_X11_permit 12 rfl) 19 rfl ?_
  refine x_ixor C (dkAt dk_X11_permit 13 rfl) 20 rfl ?_
  refine x_iand C (dkAt dk_X11_permit 14 rfl) 21 rfl ?_
  refine x_istore C (L1 := [some (.ref (wad Γ 0)), some (.int p0), some (.int p1), some (.int p2), some (.int (v3 &&& (((1 : Int32) <<< (p1 &&& 31)) ^^^ (-1 : Int32))))]) (dkAt dk_X11_permit 15 rfl) 23 rfl (by decide) rfl ?_
  refine x_iload_n C rfl rfl (dkAt dk_X11_permit 16 rfl) 24 rfl ?_
  refine x_join hf (fun t4 => G Γ X M2 3 18 [some (.ref (wad Γ 0)), some (.int p0), some (.int p1), some (.int p2), some (.int (v3 &&& (((1 : Int32) <<< (p1 &&& 31)) ^^^ (-1 : Int32))))] [] 57) (fun t4 hf => ?_) (fun j13 hj13 hf => ?_)
  · refine x_aload_n C rfl rfl (dkAt dk_X11_permit 35 rfl) 58 rfl ?_
    refine x_getS C lk_RX11_42 (hN.sh sh0) (hN.sr sr0_3) (dkAt dk_X11_permit 36 rfl) 61 rfl ?_
    refine x_iload_n C rfl rfl (dkAt dk_X11_permit 37 rfl) 62 rfl ?_
    refine x_iload_n C rfl rfl (dkAt dk_X11_permit 38 rfl) 63 rfl ?_
    obtain ⟨v5, M6, h12, hf⟩ := cl_inv hf
    refine x_cVi C (c_X7_permits hN sh10 h12) mw_X7_permits ln_RX11_195 mi_X7_permits (hN.rc (ci := 7) sh10 rc7) (ro_of (by decide) (by decide) (by decide) (by decide)) rfl rfl (Nat.le_of_ble_eq_true rfl) (dkAt dk_X11_permit 39 rfl) 66 rfl 3 18 rfl rfl ?_
    refine x_istore C (L1 := [some (.ref (wad Γ 0)), some (.int p0), some (.int p1), some (.int p2), some (.int (v3 &&& (((1 : Int32) <<< (p1 &&& 31)) ^^^ (-1 : Int32)))), some (.int v5)]) (dkAt dk_X11_permit 40 rfl) 68 rfl (by decide) rfl ?_
    refine x_aload_n C rfl rfl (dkAt dk_X11_permit 41 rfl) 69 rfl ?_
    refine x_getS C lk_RX11_49 (hN.sh sh0) (hN.sr sr0_4) (dkAt dk_X11_permit 42 rfl) 72 rfl ?_
    refine x_aload_n C rfl rfl (dkAt dk_X11_permit 43 rfl) 73 rfl ?_
    refine x_getS C lk_RX11_42 (hN.sh sh0) (hN.sr sr0_3) (dkAt dk_X11_permit 44 rfl) 76 rfl ?_
    obtain ⟨v7, M8, h11, hf⟩ := cl_inv hf
    refine x_cVv C (c_X3_keep hN h11) mw_X3_keep ln_RX11_331 mi_X3_keep (hN.rc (ci := 3) sh35 rc3) (ro_of (by decide) (by decide) (by decide) (by decide)) rfl rfl (Nat.le_of_ble_eq_true rfl) (dkAt dk_X11_permit 45 rfl) 79 rfl 3 18 rfl rfl ?_
    refine x_aload_n C rfl rfl (dkAt dk_X11_permit 46 rfl) 80 rfl ?_
    refine x_getS C lk_RX11_42 (hN.sh sh0) (hN.sr sr0_3) (dkAt dk_X11_permit 47 rfl) 83 rfl ?_
    refine x_getS C lk_RX11_342 (hN.sh sh10) (hN.sr sr10_1) (dkAt dk_X11_permit 48 rfl) 86 rfl ?_
    refine x_iload_n C rfl rfl (dkAt dk_X11_permit 49 rfl) 87 rfl ?_
    refine x_iload_n C rfl rfl (dkAt dk_X11_permit 50 rfl) 88 rfl ?_
    refine x_if_eq C 100 (dkAt dk_X11_permit 51 rfl) 91 rfl (by decide) hf (fun hf => ?_) (fun hf => ?_)
    · refine x_iload C rfl (dkAt dk_X11_permit 58 rfl) 102 rfl ?_
      refine x_iast C (hN.sh sh12) (dkAt dk_X11_permit 59 rfl) 103 rfl hf (fun M9 hf => ?_)
      refine x_iload C rfl (dkAt dk_X11_permit 60 rfl) 105 rfl ?_
      obtain ⟨hz, hf⟩ := if_some hf
      exact t_zret C E hz hf (by decide) (by decide) (dkAt dk_X11_permit 61 rfl)
    · refine x_iload C rfl (dkAt dk_X11_permit 52 rfl) 93 rfl ?_
      refine x_iconst C (v := (1 : Int32)) (by decide) (dkAt dk_X11_permit 53 rfl) 94 rfl ?_
      refine x_iload_n C rfl rfl (dkAt dk_X11_permit 54 rfl) 95 rfl ?_
      refine x_ishl C (dkAt dk_X11_permit 55 rfl) 96 rfl ?_
      refine x_ior C (dkAt dk_X11_permit 56 rfl) 97 rfl ?_
      refine x_goto C 102 (dkAt dk_X11_permit 57 rfl) (by decide) ?_
      refine x_iast C (hN.sh sh12) (dkAt dk_X11_permit 59 rfl) 103 rfl hf (fun M10 hf => ?_)
      refine x_iload C rfl (dkAt dk_X11_permit 60 rfl) 105 rfl ?_
      obtain ⟨hz, hf⟩ := if_some hf
      exact t_zret C E hz hf (by decide) (by decide) (dkAt dk_X11_permit 61 rfl)
  · refine x_if_ne C 57 (dkAt dk_X11_permit 17 rfl) 27 rfl (by decide) hf (fun hf => ?_) (fun hf => ?_)
    · exact G.weak (L := [some (.ref (wad Γ 0)), some (.int p0), some (.int p1), some (.int p2), some (.int (v3 &&& (((1 : Int32) <<< (p1 &&& 31)) ^^^ (-1 : Int32))))]) ⟨rfl, rfl, rfl, rfl, rfl, trivial⟩ (hj13 _ hf)
    · refine x_iload C rfl (dkAt dk_X11_permit 18 rfl) 29 rfl ?_
      refine x_iconst C (v := (1 : Int32)) (by decide) (dkAt dk_X11_permit 19 rfl) 30 rfl ?_
      refine x_aload_n C rfl rfl (dkAt dk_X11_permit 20 rfl) 31 rfl ?_
      refine x_getS C lk_RX11_38 (hN.sh sh0) (hN.sr sr0_2) (dkAt dk_X11_permit 21 rfl) 34 rfl ?_
      refine x_getS C lk_RX11_169 (hN.sh sh3) (hN.sr sr3_2) (dkAt dk_X11_permit 22 rfl) 37 rfl ?_
      refine x_iload_n C rfl rfl (dkAt dk_X11_permit 23 rfl) 38 rfl ?_
      refine x_iald C (hN.sh sh4) (dkAt dk_X11_permit 24 rfl) 39 rfl hf (fun v14 hf => ?_)
      refine x_ishl C (dkAt dk_X11_permit 25 rfl) 40 rfl ?_
      refine x_iconst C (v := (1 : Int32)) (by decide) (dkAt dk_X11_permit 26 rfl) 41 rfl ?_
      refine x_isub C (dkAt dk_X11_permit 27 rfl) 42 rfl ?_
      refine x_iand C (dkAt dk_X11_permit 28 rfl) 43 rfl ?_
      refine x_if_ne C 57 (dkAt dk_X11_permit 29 rfl) 46 rfl (by decide) hf (fun hf => ?_) (fun hf => ?_)
      · exact G.weak (L := [some (.ref (wad Γ 0)), some (.int p0), some (.int p1), some (.int p2), some (.int (v3 &&& (((1 : Int32) <<< (p1 &&& 31)) ^^^ (-1 : Int32))))]) ⟨rfl, rfl, rfl, rfl, rfl, trivial⟩ (hj13 _ hf)
      · exact t_throwW C E (n9 := 2) hf (by decide) (by decide) ⟨by decide, by decide, by decide, by decide⟩ (Nat.le_of_ble_eq_true rfl) (by decide) th_RX11_122_126.1 th_RX11_122_126.2.1 (hN.st (i := 33) rfl) th_RX11_122_126.2.2.1 th_RX11_122_126.2.2.2 (dkAt dk_X11_permit 30 rfl) (dkAt dk_X11_permit 31 rfl) (dkAt dk_X11_permit 32 rfl) (dkAt dk_X11_permit 33 rfl) (dkAt dk_X11_permit 34 rfl)
def f_X11_setLimit (Z : Nat) (M : Mem) (p0 : Int32) (p1 : Int32) : Option (Except Nat Int32 × Mem) :=
  clT (f_X11_needBudget Z M p0) (fun v1 M2 => clT (f_X11_needRange Z M2 p1 (0 : Int32) (9999 : Int32)) (fun v3 M4 => cl (f_X3_keep Z M4) (fun v5 M6 => rdI M6 13 3 p0 (fun v7 => wrI M6 13 3 p0 p1 (fun M8 => some (.ok v7, M8))))) pr) pr
set_option maxRecDepth 100000 in
theorem c_X11_setLimit {Γ : WC} (hN : HN Γ) {Z : Nat} {M : Mem} {p0 : Int32} {p1 : Int32} {rM : Except Nat Int32 × Mem}  (hf : f_X11_setLimit Z M p0 p1 = some rM) : CtT Γ yX11_setLimit cX11_setLimit 4 (some .int) (rmL 8 3 18) [.ref (wad Γ 0), .int p0, .int p1] M (fun v => some (.int v)) rM := by
  refine mkT hN.1 (own := RX11) rfl (by decide) (Nat.le_of_ble_eq_true rfl) (fun X C E => ?_)
  change G Γ X M 0 0 [some (.ref (wad Γ 0)), some (.int p0), some (.int p1)] [] 0
  unfold f_X11_setLimit at hf
  refine x_aload_n C rfl rfl (dkAt dk_X11_setLimit 0 rfl) 1 rfl ?_
  refine x_iload_n C rfl rfl (dkAt dk_X11_setLimit 1 rfl) 2 rfl ?_
  refine t_cVv C E hf (fun r hr => c_X11_needBudget hN hr) mw_X11_needBudget ln_RX11_183 mi_X11_needBudget (hN.rc (ci := 11) sh0 rc11) (ro_of (by decide) (by decide) (by decide) (by decide)) rfl rfl (Nat.le_of_ble_eq_true rfl) (dkAt dk_X11_setLimit 2 rfl) 5 rfl 2 12 rfl rfl (by decide) (by decide) (fun v1 M2 hf => ?_)
  refine x_iload_n C rfl rfl (dkAt dk_X11_setLimit 3 rfl) 6 rfl ?_
  refine x_iconst C (v := (0 : Int32)) (by decide) (dkAt dk_X11_setLimit 4 rfl) 7 rfl ?_
  refine x_sipush C (v := (9999 : Int32)) (by decide) (dkAt dk_X11_setLimit 5 rfl) 10 rfl ?_
  refine t_cSv C E hf (fun r hr => c_X11_needRange hN hr) mw_X11_needRange ln_RX11_212 ms_X11_needRange (ro_of (by decide) (by decide) (by decide) (by decide)) rfl rfl (Nat.le_of_ble_eq_true rfl) (dkAt dk_X11_setLimit 6 rfl) 13 rfl 3 18 rfl rfl (by decide) (by decide) (fun v3 M4 hf => ?_)
  refine x_aload_n C rfl rfl (dkAt dk_X11_setLimit 7 rfl) 14 rfl ?_
  refine x_getS C lk_RX11_49 (hN.sh sh0) (hN.sr sr0_4) (dkAt dk_X11_setLimit 8 rfl) 17 rfl ?_
  refine x_aload_n C rfl rfl (dkAt dk_X11_setLimit 9 rfl) 18 rfl ?_
  refine x_getS C lk_RX11_42 (hN.sh sh0) (hN.sr sr0_3) (dkAt dk_X11_setLimit 10 rfl) 21 rfl ?_
  obtain ⟨v5, M6, h9, hf⟩ := cl_inv hf
  refine x_cVv C (c_X3_keep hN h9) mw_X3_keep ln_RX11_331 mi_X3_keep (hN.rc (ci := 3) sh35 rc3) (ro_of (by decide) (by decide) (by decide) (by decide)) rfl rfl (Nat.le_of_ble_eq_true rfl) (dkAt dk_X11_setLimit 11 rfl) 24 rfl 3 18 rfl rfl ?_
  refine x_aload_n C rfl rfl (dkAt dk_X11_setLimit 12 rfl) 25 rfl ?_
  refine x_getS C lk_RX11_42 (hN.sh sh0) (hN.sr sr0_3) (dkAt dk_X11_setLimit 13 rfl) 28 rfl ?_
  refine x_getS C lk_RX11_199 (hN.sh sh10) (hN.sr sr10_2) (dkAt dk_X11_setLimit 14 rfl) 31 rfl ?_
  refine x_iload_n C rfl rfl (dkAt dk_X11_setLimit 15 rfl) 32 rfl ?_
  refine x_iald C (hN.sh sh13) (dkAt dk_X11_setLimit 16 rfl) 33 rfl hf (fun v7 hf => ?_)
  refine x_istore_n C (L1 := [some (.ref (wad Γ 0)), some (.int p0), some (.int p1), some (.int v7)]) (dkAt dk_X11_setLimit 17 rfl) 34 rfl rfl (by decide) rfl ?_
  refine x_aload_n C rfl rfl (dkAt dk_X11_setLimit 18 rfl) 35 rfl ?_
  refine x_getS C lk_RX11_42 (hN.sh sh0) (hN.sr sr0_3) (dkAt dk_X11_setLimit 19 rfl) 38 rfl ?_
  refine x_getS C lk_RX11_199 (hN.sh sh10) (hN.sr sr10_2) (dkAt dk_X11_setLimit 20 rfl) 41 rfl ?_
  refine x_iload_n C rfl rfl (dkAt dk_X11_setLimit 21 rfl) 42 rfl ?_
  refine x_iload_n C rfl rfl (dkAt dk_X11_setLimit 22 rfl) 43 rfl ?_
  refine x_iast C (hN.sh sh13) (dkAt dk_X11_setLimit 23 rfl) 44 rfl hf (fun M8 hf => ?_)
  refine x_iload_n C rfl rfl (dkAt dk_X11_setLimit 24 rfl) 45 rfl ?_
  exact t_iret C E hf (by decide) (by decide) (dkAt dk_X11_setLimit 25 rfl)
def f_X11_setStart (Z : Nat) (M : Mem) (p0 : Int32) : Option (Except Nat Int32 × Mem) :=
  clT (f_X11_needState Z M p0) (fun v1 M2 => cl (f_X3_keep Z M2) (fun v3 M4 => bd (gI M4 (10) 3) (fun v5 => bd (sI M4 (10) 3 p0) (fun M6 => some (.ok v5, M6))))) pr
set_option maxRecDepth 100000 in
theorem c_X11_setStart {Γ : WC} (hN : HN Γ) {Z : Nat} {M : Mem} {p0 : Int32} {rM : Except Nat Int32 × Mem}  (hf : f_X11_setStart Z M p0 = some rM) : CtT Γ yX11_setStart cX11_setStart 3 (some .int) (rmL 8 2 12) [.ref (wad Γ 0), .int p0] M (fun v => some (.int v)) rM := by
  refine mkT hN.1 (own := RX11) rfl (by decide) (Nat.le_of_ble_eq_true rfl) (fun X C E => ?_)
  change G Γ X M 0 0 [some (.ref (wad Γ 0)), some (.int p0)] [] 0
  unfold f_X11_setStart at hf
  refine x_aload_n C rfl rfl (dkAt dk_X11_setStart 0 rfl) 1 rfl ?_
  refine x_iload_n C rfl rfl (dkAt dk_X11_setStart 1 rfl) 2 rfl ?_
  refine t_cVv C E hf (fun r hr => c_X11_needState hN hr) mw_X11_needState ln_RX11_166 mi_X11_needState (hN.rc (ci := 11) sh0 rc11) (ro_of (by decide) (by decide) (by decide) (by decide)) rfl rfl (Nat.le_of_ble_eq_true rfl) (dkAt dk_X11_setStart 2 rfl) 5 rfl 2 12 rfl rfl (by decide) (by decide) (fun v1 M2 hf => ?_)
  refine x_aload_n C rfl rfl (dkAt dk_X11_setStart 3 rfl) 6 rfl ?_
  refine x_getS C lk_RX11_49 (hN.sh sh0) (hN.sr sr0_4) (dkAt dk_X11_setStart 4 rfl) 9 rfl ?_
  refine x_aload_n C rfl rfl (dkAt dk_X11_setStart 5 rfl) 10 rfl ?_
  refine x_getS C lk_RX11_42 (hN.sh sh0) (hN.sr sr0_3) (dkAt dk_X11_setStart 6 rfl) 13 rfl ?_
  obtain ⟨v3, M4, h7, hf⟩ := cl_inv hf
  refine x_cVv C (c_X3_keep hN h7) mw_X3_keep ln_RX11_331 mi_X3_keep (hN.rc (ci := 3) sh35 rc3) (ro_of (by decide) (by decide) (by decide) (by decide)) rfl rfl (Nat.le_of_ble_eq_true rfl) (dkAt dk_X11_setStart 7 rfl) 16 rfl 2 12 rfl rfl ?_
  refine x_aload_n C rfl rfl (dkAt dk_X11_setStart 8 rfl) 17 rfl ?_
  refine x_getS C lk_RX11_42 (hN.sh sh0) (hN.sr sr0_3) (dkAt dk_X11_setStart 9 rfl) 20 rfl ?_
  refine x_getI C lk_RX11_163 (hN.sh sh10) (dkAt dk_X11_setStart 10 rfl) 23 rfl hf (fun v5 hf => ?_)
  refine x_istore_n C (L1 := [some (.ref (wad Γ 0)), some (.int p0), some (.int v5)]) (dkAt dk_X11_setStart 11 rfl) 24 rfl rfl (by decide) rfl ?_
  refine x_aload_n C rfl rfl (dkAt dk_X11_setStart 12 rfl) 25 rfl ?_
  refine x_getS C lk_RX11_42 (hN.sh sh0) (hN.sr sr0_3) (dkAt dk_X11_setStart 13 rfl) 28 rfl ?_
  refine x_iload_n C rfl rfl (dkAt dk_X11_setStart 14 rfl) 29 rfl ?_
  refine x_putI C pk_RX11_163 ⟨_, rfl⟩ (hN.sh sh10) (dkAt dk_X11_setStart 15 rfl) 32 rfl hf (fun M6 hf => ?_)
  refine x_iload_n C rfl rfl (dkAt dk_X11_setStart 16 rfl) 33 rfl ?_
  exact t_iret C E hf (by decide) (by decide) (dkAt dk_X11_setStart 17 rfl)
def f_X11_setHorizon (Z : Nat) (M : Mem) (p0 : Int32) : Option (Except Nat Int32 × Mem) :=
  clT (f_X11_needChain Z M) (fun v1 M2 => clT (f_X11_needRange Z M2 p0 (1 : Int32) (5 : Int32)) (fun v3 M4 => cl (f_X3_keep Z M4) (fun v5 M6 => bd (gI M6 (10) 4) (fun v7 => bd (sI M6 (10) 4 p0) (fun M8 => some (.ok v7, M8))))) pr) pr
set_option maxRecDepth 100000 in
theorem c_X11_setHorizon {Γ : WC} (hN : HN Γ) {Z : Nat} {M : Mem} {p0 : Int32} {rM : Except Nat Int32 × Mem}  (hf : f_X11_setHorizon Z M p0 = some rM) : CtT Γ yX11_setHorizon cX11_setHorizon 3 (some .int) (rmL 7 2 12) [.ref (wad Γ 0), .int p0] M (fun v => some (.int v)) rM := by
  refine mkT hN.1 (own := RX11) rfl (by decide) (Nat.le_of_ble_eq_true rfl) (fun X C E => ?_)
  change G Γ X M 0 0 [some (.ref (wad Γ 0)), some (.int p0)] [] 0
  unfold f_X11_setHorizon at hf
  refine x_aload_n C rfl rfl (dkAt dk_X11_setHorizon 0 rfl) 1 rfl ?_
  refine t_cVv C E hf (fun r hr => c_X11_needChain hN hr) mw_X11_needChain ln_RX11_160 mi_X11_needChain (hN.rc (ci := 11) sh0 rc11) (ro_of (by decide) (by decide) (by decide) (by decide)) rfl rfl (Nat.le_of_ble_eq_true rfl) (dkAt dk_X11_setHorizon 1 rfl) 4 rfl 1 6 rfl rfl (by decide) (by decide) (fun v1 M2 hf => ?_)
  refine x_iload_n C rfl rfl (dkAt dk_X11_setHorizon 2 rfl) 5 rfl ?_
  refine x_iconst C (v := (1 : Int32)) (by decide) (dkAt dk_X11_setHorizon 3 rfl) 6 rfl ?_
  refine x_iconst C (v := (5 : Int32)) (by decide) (dkAt dk_X11_setHorizon 4 rfl) 7 rfl ?_
  refine t_cSv C E hf (fun r hr => c_X11_needRange hN hr) mw_X11_needRange ln_RX11_212 ms_X11_needRange (ro_of (by decide) (by decide) (by decide) (by decide)) rfl rfl (Nat.le_of_ble_eq_true rfl) (dkAt dk_X11_setHorizon 5 rfl) 10 rfl 2 12 rfl rfl (by decide) (by decide) (fun v3 M4 hf => ?_)
  refine x_aload_n C rfl rfl (dkAt dk_X11_setHorizon 6 rfl) 11 rfl ?_
  refine x_getS C lk_RX11_49 (hN.sh sh0) (hN.sr sr0_4) (dkAt dk_X11_setHorizon 7 rfl) 14 rfl ?_
  refine x_aload_n C rfl rfl (dkAt dk_X11_setHorizon 8 rfl) 15 rfl ?_
  refine x_getS C lk_RX11_42 (hN.sh sh0) (hN.sr sr0_3) (dkAt dk_X11_setHorizon 9 rfl) 18 rfl ?_
  obtain ⟨v5, M6, h9, hf⟩ := cl_inv hf
  refine x_cVv C (c_X3_keep hN h9) mw_X3_keep ln_RX11_331 mi_X3_keep (hN.rc (ci := 3) sh35 rc3) (ro_of (by decide) (by decide) (by decide) (by decide)) rfl rfl (Nat.le_of_ble_eq_true rfl) (dkAt dk_X11_setHorizon 10 rfl) 21 rfl 2 12 rfl rfl ?_
  refine x_aload_n C rfl rfl (dkAt dk_X11_setHorizon 11 rfl) 22 rfl ?_
  refine x_getS C lk_RX11_42 (hN.sh sh0) (hN.sr sr0_3) (dkAt dk_X11_setHorizon 12 rfl) 25 rfl ?_
  refine x_getI C lk_RX11_157 (hN.sh sh10) (dkAt dk_X11_setHorizon 13 rfl) 28 rfl hf (fun v7 hf => ?_)
  refine x_istore_n C (L1 := [some (.ref (wad Γ 0)), some (.int p0), some (.int v7)]) (dkAt dk_X11_setHorizon 14 rfl) 29 rfl rfl (by decide) rfl ?_
  refine x_aload_n C rfl rfl (dkAt dk_X11_setHorizon 15 rfl) 30 rfl ?_
  refine x_getS C lk_RX11_42 (hN.sh sh0) (hN.sr sr0_3) (dkAt dk_X11_setHorizon 16 rfl) 33 rfl ?_
  refine x_iload_n C rfl rfl (dkAt dk_X11_setHorizon 17 rfl) 34 rfl ?_
  refine x_putI C pk_RX11_157 ⟨_, rfl⟩ (hN.sh sh10) (dkAt dk_X11_setHorizon 18 rfl) 37 rfl hf (fun M8 hf => ?_)
  refine x_iload_n C rfl rfl (dkAt dk_X11_setHorizon 19 rfl) 38 rfl ?_
  exact t_iret C E hf (by decide) (by decide) (dkAt dk_X11_setHorizon 20 rfl)
def f_X11_walk_L61 (Z : Nat) (k : Mem → Option (Except Nat Int32 × Mem)) : Nat → Int32 → Mem → Option (Except Nat Int32 × Mem)
  | 0, _, _ => none
  | n + 1, x11, M12 => bd (gI M12 (10) 4) (fun v13 => (if v13 ≤ x11 then k M12 else cl (f_X10_step Z M12) (fun v14 M15 => bd (gI M15 (104) 3) (fun v16 => wrI M15 15 5 x11 v16 (fun M17 => bd (gI M17 (104) 2) (fun v18 => wrI M17 14 6 (x11 + (1 : Int32)) v18 (fun M19 => f_X11_walk_L61 Z k n (x11 + (1 : Int32)) M19)))))))
def f_X11_walk (Z : Nat) (M : Mem)  : Option (Except Nat Int32 × Mem) :=
  clT (f_X11_needChain Z M) (fun v1 M2 => cl (f_X3_keep Z M2) (fun v3 M4 => bd (gI M4 (10) 5) (fun v5 => bd (sI M4 (104) 1 v5) (fun M6 => bd (gI M6 (10) 3) (fun v7 => bd (sI M6 (104) 2 v7) (fun M8 => bd (gI M8 (10) 3) (fun v9 => wrI M8 14 6 (0 : Int32) v9 (fun M10 => f_X11_walk_L61 Z (fun (M21 : Mem) => bd (gI M21 (10) 4) (fun v22 => bd (sI M21 (10) 6 v22) (fun M23 => bd (gI M23 (104) 1) (fun v24 => bd (sI M23 (10) 5 v24) (fun M25 => bd (gI M25 (104) 2) (fun v26 => some (.ok v26, M25))))))) Z (0 : Int32) M10)))))))) pr
set_option maxRecDepth 100000 in
theorem l_X11_walk_L61 {Γ : WC} {X : MX} (hN : HN Γ) (C : CX Γ X cX11_walk 2 RX11 (some .int) (rmL 7 1 6)) {rM : Except Nat Int32 × Mem} (E : EndT Γ X (fun v => some (.int v)) rM 1 6) {Z : Nat} {k : Mem → Option (Except Nat Int32 × Mem)} (hk : ∀  (Mx : Mem), k Mx = some rM → G Γ X Mx 1 6 [some (.ref (wad Γ 0))] [] 126) : ∀ (n : Nat) (x11 : Int32) (M12 : Mem), f_X11_walk_L61 Z k n x11 M12 = some rM → G Γ X M12 1 6 [some (.ref (wad Γ 0)), some (.int x11)] [] 61 := by
  intro n
  induction n with
  | zero =>
    intro x11 M12 hf
    have hf0 : (none : Option _) = some rM := hf
    cases hf0
  | succ n ih =>
    intro x11 M12 hf
    rw [f_X11_walk_L61] at hf
    refine x_iload_n C rfl rfl (dkAt dk_X11_walk 29 rfl) 62 rfl ?_
    refine x_aload_n C rfl rfl (dkAt dk_X11_walk 30 rfl) 63 rfl ?_
    refine x_getS C lk_RX11_42 (hN.sh sh0) (hN.sr sr0_3) (dkAt dk_X11_walk 31 rfl) 66 rfl ?_
    refine x_getI C lk_RX11_157 (hN.sh sh10) (dkAt dk_X11_walk 32 rfl) 69 rfl hf (fun v13 hf => ?_)
    refine x_icmp_ge C 126 (dkAt dk_X11_walk 33 rfl) 72 rfl (by decide) hf (fun hf => ?_) (fun hf => ?_)
    · exact G.weak (L := [some (.ref (wad Γ 0))]) ⟨rfl, trivial⟩ (hk _ hf)
    · refine x_aload_n C rfl rfl (dkAt dk_X11_walk 34 rfl) 73 rfl ?_
      refine x_getS C lk_RX11_85 (hN.sh sh0) (hN.sr sr0_9) (dkAt dk_X11_walk 35 rfl) 76 rfl ?_
      refine x_aload_n C rfl rfl (dkAt dk_X11_walk 36 rfl) 77 rfl ?_
      refine x_getS C lk_RX11_42 (hN.sh sh0) (hN.sr sr0_3) (dkAt dk_X11_walk 37 rfl) 80 rfl ?_
      refine x_getS C lk_RX11_192 (hN.sh sh10) (hN.sr sr10_0) (dkAt dk_X11_walk 38 rfl) 83 rfl ?_
      obtain ⟨v14, M15, h20, hf⟩ := cl_inv hf
      refine x_cVv C (c_X10_step hN h20) mw_X10_step ln_RX11_350 mi_X10_step (hN.rc (ci := 10) sh104 rc10) (ro_of (by decide) (by decide) (by decide) (by decide)) rfl rfl (Nat.le_of_ble_eq_true rfl) (dkAt dk_X11_walk 39 rfl) 86 rfl 1 6 rfl rfl ?_
      refine x_aload_n C rfl rfl (dkAt dk_X11_walk 40 rfl) 87 rfl ?_
      refine x_getS C lk_RX11_42 (hN.sh sh0) (hN.sr sr0_3) (dkAt dk_X11_walk 41 rfl) 90 rfl ?_
      refine x_getS C lk_RX11_305 (hN.sh sh10) (hN.sr sr10_8) (dkAt dk_X11_walk 42 rfl) 93 rfl ?_
      refine x_iload_n C rfl rfl (dkAt dk_X11_walk 43 rfl) 94 rfl ?_
      refine x_aload_n C rfl rfl (dkAt dk_X11_walk 44 rfl) 95 rfl ?_
      refine x_getS C lk_RX11_85 (hN.sh sh0) (hN.sr sr0_9) (dkAt dk_X11_walk 45 rfl) 98 rfl ?_
      refine x_getI C lk_RX11_354 (hN.sh sh104) (dkAt dk_X11_walk 46 rfl) 101 rfl hf (fun v16 hf => ?_)
      refine x_iast C (hN.sh sh15) (dkAt dk_X11_walk 47 rfl) 102 rfl hf (fun M17 hf => ?_)
      refine x_aload_n C rfl rfl (dkAt dk_X11_walk 48 rfl) 103 rfl ?_
      refine x_getS C lk_RX11_42 (hN.sh sh0) (hN.sr sr0_3) (dkAt dk_X11_walk 49 rfl) 106 rfl ?_
      refine x_getS C lk_RX11_302 (hN.sh sh10) (hN.sr sr10_7) (dkAt dk_X11_walk 50 rfl) 109 rfl ?_
      refine x_iload_n C rfl rfl (dkAt dk_X11_walk 51 rfl) 110 rfl ?_
      refine x_iconst C (v := (1 : Int32)) (by decide) (dkAt dk_X11_walk 52 rfl) 111 rfl ?_
      refine x_iadd C (dkAt dk_X11_walk 53 rfl) 112 rfl ?_
      refine x_aload_n C rfl rfl (dkAt dk_X11_walk 54 rfl) 113 rfl ?_
      refine x_getS C lk_RX11_85 (hN.sh sh0) (hN.sr sr0_9) (dkAt dk_X11_walk 55 rfl) 116 rfl ?_
      refine x_getI C lk_RX11_347 (hN.sh sh104) (dkAt dk_X11_walk 56 rfl) 119 rfl hf (fun v18 hf => ?_)
      refine x_iast C (hN.sh sh14) (dkAt dk_X11_walk 57 rfl) 120 rfl hf (fun M19 hf => ?_)
      refine x_iinc C (v := (x11 + (1 : Int32))) (L1 := [some (.ref (wad Γ 0)), some (.int (x11 + (1 : Int32)))]) (dkAt dk_X11_walk 58 rfl) 123 rfl rfl rfl (by decide) rfl ?_
      refine x_goto C 61 (dkAt dk_X11_walk 59 rfl) (by decide) ?_
      exact G.weak (L := [some (.ref (wad Γ 0)), some (.int (x11 + (1 : Int32)))]) ⟨rfl, rfl, trivial⟩ (ih _ _ hf)
set_option maxRecDepth 100000 in
theorem c_X11_walk {Γ : WC} (hN : HN Γ) {Z : Nat} {M : Mem}  {rM : Except Nat Int32 × Mem}  (hf : f_X11_walk Z M  = some rM) : CtT Γ yX11_walk cX11_walk 2 (some .int) (rmL 7 1 6) [.ref (wad Γ 0)] M (fun v => some (.int v)) rM := by
  refine mkT hN.1 (own := RX11) rfl (by decide) (Nat.le_of_ble_eq_true rfl) (fun X C E => ?_)
  change G Γ X M 0 0 [some (.ref (wad Γ 0))] [] 0
  unfold f_X11_walk at hf
  refine x_aload_n C rfl rfl (dkAt dk_X11_walk 0 rfl) 1 rfl ?_
  refine t_cVv C E hf (fun r hr => c_X11_needChain hN hr) mw_X11_needChain ln_RX11_160 mi_X11_needChain (hN.rc (ci := 11) sh0 rc11) (ro_of (by decide) (by decide) (by decide) (by decide)) rfl rfl (Nat.le_of_ble_eq_true rfl) (dkAt dk_X11_walk 1 rfl) 4 rfl 1 6 rfl rfl (by decide) (by decide) (fun v1 M2 hf => ?_)
  refine x_aload_n C rfl rfl (dkAt dk_X11_walk 2 rfl) 5 rfl ?_
  refine x_getS C lk_RX11_49 (hN.sh sh0) (hN.sr sr0_4) (dkAt dk_X11_walk 3 rfl) 8 rfl ?_
  refine x_aload_n C rfl rfl (dkAt dk_X11_walk 4 rfl) 9 rfl ?_
  refine x_getS C lk_RX11_42 (hN.sh sh0) (hN.sr sr0_3) (dkAt dk_X11_walk 5 rfl) 12 rfl ?_
  obtain ⟨v3, M4, h27, hf⟩ := cl_inv hf
  refine x_cVv C (c_X3_keep hN h27) mw_X3_keep ln_RX11_331 mi_X3_keep (hN.rc (ci := 3) sh35 rc3) (ro_of (by decide) (by decide) (by decide) (by decide)) rfl rfl (Nat.le_of_ble_eq_true rfl) (dkAt dk_X11_walk 6 rfl) 15 rfl 1 6 rfl rfl ?_
  refine x_aload_n C rfl rfl (dkAt dk_X11_walk 7 rfl) 16 rfl ?_
  refine x_getS C lk_RX11_85 (hN.sh sh0) (hN.sr sr0_9) (dkAt dk_X11_walk 8 rfl) 19 rfl ?_
  refine x_aload_n C rfl rfl (dkAt dk_X11_walk 9 rfl) 20 rfl ?_
  refine x_getS C lk_RX11_42 (hN.sh sh0) (hN.sr sr0_3) (dkAt dk_X11_walk 10 rfl) 23 rfl ?_
  refine x_getI C lk_RX11_293 (hN.sh sh10) (dkAt dk_X11_walk 11 rfl) 26 rfl hf (fun v5 hf => ?_)
  refine x_putI C pk_RX11_311 ⟨_, rfl⟩ (hN.sh sh104) (dkAt dk_X11_walk 12 rfl) 29 rfl hf (fun M6 hf => ?_)
  refine x_aload_n C rfl rfl (dkAt dk_X11_walk 13 rfl) 30 rfl ?_
  refine x_getS C lk_RX11_85 (hN.sh sh0) (hN.sr sr0_9) (dkAt dk_X11_walk 14 rfl) 33 rfl ?_
  refine x_aload_n C rfl rfl (dkAt dk_X11_walk 15 rfl) 34 rfl ?_
  refine x_getS C lk_RX11_42 (hN.sh sh0) (hN.sr sr0_3) (dkAt dk_X11_walk 16 rfl) 37 rfl ?_
  refine x_getI C lk_RX11_163 (hN.sh sh10) (dkAt dk_X11_walk 17 rfl) 40 rfl hf (fun v7 hf => ?_)
  refine x_putI C pk_RX11_347 ⟨_, rfl⟩ (hN.sh sh104) (dkAt dk_X11_walk 18 rfl) 43 rfl hf (fun M8 hf => ?_)
  refine x_aload_n C rfl rfl (dkAt dk_X11_walk 19 rfl) 44 rfl ?_
  refine x_getS C lk_RX11_42 (hN.sh sh0) (hN.sr sr0_3) (dkAt dk_X11_walk 20 rfl) 47 rfl ?_
  refine x_getS C lk_RX11_302 (hN.sh sh10) (hN.sr sr10_7) (dkAt dk_X11_walk 21 rfl) 50 rfl ?_
  refine x_iconst C (v := (0 : Int32)) (by decide) (dkAt dk_X11_walk 22 rfl) 51 rfl ?_
  refine x_aload_n C rfl rfl (dkAt dk_X11_walk 23 rfl) 52 rfl ?_
  refine x_getS C lk_RX11_42 (hN.sh sh0) (hN.sr sr0_3) (dkAt dk_X11_walk 24 rfl) 55 rfl ?_
  refine x_getI C lk_RX11_163 (hN.sh sh10) (dkAt dk_X11_walk 25 rfl) 58 rfl hf (fun v9 hf => ?_)
  refine x_iast C (hN.sh sh14) (dkAt dk_X11_walk 26 rfl) 59 rfl hf (fun M10 hf => ?_)
  refine x_iconst C (v := (0 : Int32)) (by decide) (dkAt dk_X11_walk 27 rfl) 60 rfl ?_
  refine x_istore_n C (L1 := [some (.ref (wad Γ 0)), some (.int (0 : Int32))]) (dkAt dk_X11_walk 28 rfl) 61 rfl rfl (by decide) rfl ?_
  refine G.weak (L := [some (.ref (wad Γ 0)), some (.int (0 : Int32))]) ⟨rfl, rfl, trivial⟩ ?_
  refine l_X11_walk_L61 hN C E ?_ Z _ _ hf
  intro M21 hf
  refine x_aload_n C rfl rfl (dkAt dk_X11_walk 60 rfl) 127 rfl ?_
  refine x_getS C lk_RX11_42 (hN.sh sh0) (hN.sr sr0_3) (dkAt dk_X11_walk 61 rfl) 130 rfl ?_
  refine x_aload_n C rfl rfl (dkAt dk_X11_walk 62 rfl) 131 rfl ?_
  refine x_getS C lk_RX11_42 (hN.sh sh0) (hN.sr sr0_3) (dkAt dk_X11_walk 63 rfl) 134 rfl ?_
  refine x_getI C lk_RX11_157 (hN.sh sh10) (dkAt dk_X11_walk 64 rfl) 137 rfl hf (fun v22 hf => ?_)
  refine x_putI C pk_RX11_299 ⟨_, rfl⟩ (hN.sh sh10) (dkAt dk_X11_walk 65 rfl) 140 rfl hf (fun M23 hf => ?_)
  refine x_aload_n C rfl rfl (dkAt dk_X11_walk 66 rfl) 141 rfl ?_
  refine x_getS C lk_RX11_42 (hN.sh sh0) (hN.sr sr0_3) (dkAt dk_X11_walk 67 rfl) 144 rfl ?_
  refine x_aload_n C rfl rfl (dkAt dk_X11_walk 68 rfl) 145 rfl ?_
  refine x_getS C lk_RX11_85 (hN.sh sh0) (hN.sr sr0_9) (dkAt dk_X11_walk 69 rfl) 148 rfl ?_
  refine x_getI C lk_RX11_311 (hN.sh sh104) (dkAt dk_X11_walk 70 rfl) 151 rfl hf (fun v24 hf => ?_)
  refine x_putI C pk_RX11_293 ⟨_, rfl⟩ (hN.sh sh10) (dkAt dk_X11_walk 71 rfl) 154 rfl hf (fun M25 hf => ?_)
  refine x_aload_n C rfl rfl (dkAt dk_X11_walk 72 rfl) 155 rfl ?_
  refine x_getS C lk_RX11_85 (hN.sh sh0) (hN.sr sr0_9) (dkAt dk_X11_walk 73 rfl) 158 rfl ?_
  refine x_getI C lk_RX11_347 (hN.sh sh104) (dkAt dk_X11_walk 74 rfl) 161 rfl hf (fun v26 hf => ?_)
  exact t_iret C E hf (by decide) (by decide) (dkAt dk_X11_walk 75 rfl)
def f_X11_undo (Z : Nat) (M : Mem)  : Option (Except Nat Int32 × Mem) :=
  bd (gI M (35) 0) (fun v1 => (if v1 = 0 then some (.error 0, M) else cl (f_X3_giveBack Z M) (fun v2 M3 => bd (gI M3 (35) 0) (fun v4 => some (.ok v4, M3)))))
set_option maxRecDepth 100000 in
theorem c_X11_undo {Γ : WC} (hN : HN Γ) {Z : Nat} {M : Mem}  {rM : Except Nat Int32 × Mem}  (hf : f_X11_undo Z M  = some rM) : CtT Γ yX11_undo cX11_undo 1 (some .int) (rmL 6 1 6) [.ref (wad Γ 0)] M (fun v => some (.int v)) rM := by
  refine mkT hN.1 (own := RX11) rfl (by decide) (Nat.le_of_ble_eq_true rfl) (fun X C E => ?_)
  change G Γ X M 0 0 [some (.ref (wad Γ 0))] [] 0
  unfold f_X11_undo at hf
  refine x_aload_n C rfl rfl (dkAt dk_X11_undo 0 rfl) 1 rfl ?_
  refine x_getS C lk_RX11_49 (hN.sh sh0) (hN.sr sr0_4) (dkAt dk_X11_undo 1 rfl) 4 rfl ?_
  refine x_getI C lk_RX11_357 (hN.sh sh35) (dkAt dk_X11_undo 2 rfl) 7 rfl hf (fun v1 hf => ?_)
  refine x_if_ne C 21 (dkAt dk_X11_undo 3 rfl) 10 rfl (by decide) hf (fun hf => ?_) (fun hf => ?_)
  · refine x_aload_n C rfl rfl (dkAt dk_X11_undo 9 rfl) 22 rfl ?_
    refine x_getS C lk_RX11_49 (hN.sh sh0) (hN.sr sr0_4) (dkAt dk_X11_undo 10 rfl) 25 rfl ?_
    refine x_aload_n C rfl rfl (dkAt dk_X11_undo 11 rfl) 26 rfl ?_
    refine x_getS C lk_RX11_42 (hN.sh sh0) (hN.sr sr0_3) (dkAt dk_X11_undo 12 rfl) 29 rfl ?_
    obtain ⟨v2, M3, h5, hf⟩ := cl_inv hf
    refine x_cVv C (c_X3_giveBack hN h5) mw_X3_giveBack ln_RX11_362 mi_X3_giveBack (hN.rc (ci := 3) sh35 rc3) (ro_of (by decide) (by decide) (by decide) (by decide)) rfl rfl (Nat.le_of_ble_eq_true rfl) (dkAt dk_X11_undo 13 rfl) 32 rfl 0 0 rfl rfl ?_
    refine x_aload_n C rfl rfl (dkAt dk_X11_undo 14 rfl) 33 rfl ?_
    refine x_getS C lk_RX11_49 (hN.sh sh0) (hN.sr sr0_4) (dkAt dk_X11_undo 15 rfl) 36 rfl ?_
    refine x_getI C lk_RX11_357 (hN.sh sh35) (dkAt dk_X11_undo 16 rfl) 39 rfl hf (fun v4 hf => ?_)
    exact t_iret C E hf (by decide) (by decide) (dkAt dk_X11_undo 17 rfl)
  · exact t_throwW C E (n9 := 0) hf (by decide) (by decide) ⟨by decide, by decide, by decide, by decide⟩ (Nat.le_of_ble_eq_true rfl) (by decide) th_RX11_334_338.1 th_RX11_334_338.2.1 (hN.st (i := 34) rfl) th_RX11_334_338.2.2.1 th_RX11_334_338.2.2.2 (dkAt dk_X11_undo 4 rfl) (dkAt dk_X11_undo 5 rfl) (dkAt dk_X11_undo 6 rfl) (dkAt dk_X11_undo 7 rfl) (dkAt dk_X11_undo 8 rfl)
def f_X11_undoable (Z : Nat) (M : Mem)  : Option (Int32 × Mem) :=
  bd (gI M (35) 0) (fun v1 => some (v1, M))
set_option maxRecDepth 100000 in
theorem c_X11_undoable {Γ : WC} (hN : HN Γ) {Z : Nat} {M : Mem}  {rM : Int32 × Mem}  (hf : f_X11_undoable Z M  = some rM) : Ct Γ yX11_undoable cX11_undoable 1 (some .int) (rmL 0 0 0) [.ref (wad Γ 0)] M (some (.int rM.1)) rM.2 := by
  refine mkN hN.1 (own := RX11) rfl (by decide) (Nat.le_of_ble_eq_true rfl) (fun X C E => ?_)
  change G Γ X M 0 0 [some (.ref (wad Γ 0))] [] 0
  unfold f_X11_undoable at hf
  refine x_aload_n C rfl rfl (dkAt dk_X11_undoable 0 rfl) 1 rfl ?_
  refine x_getS C lk_RX11_49 (hN.sh sh0) (hN.sr sr0_4) (dkAt dk_X11_undoable 1 rfl) 4 rfl ?_
  refine x_getI C lk_RX11_357 (hN.sh sh35) (dkAt dk_X11_undoable 2 rfl) 7 rfl hf (fun v1 hf => ?_)
  exact x_iret C E hf (by decide) (by decide) (dkAt dk_X11_undoable 3 rfl)
def f_X11_needSlot (Z : Nat) (M : Mem) (p0 : Int32) : Option (Except Nat Unit × Mem) :=
  jn (fun (t1 : Unit) => some (.error 1, M)) (fun j2 => (if p0 < 0 then j2 () else (if p0 < (2 : Int32) then some (.ok (), M) else j2 ())))
set_option maxRecDepth 100000 in
theorem c_X11_needSlot {Γ : WC} (hN : HN Γ) {Z : Nat} {M : Mem} {p0 : Int32} {rM : Except Nat Unit × Mem}  (hf : f_X11_needSlot Z M p0 = some rM) : CtT Γ yX11_needSlot cX11_needSlot 1 none (rmL 6 1 6) [.int p0] M (fun _ => none) rM := by
  refine mkT hN.1 (own := RX11) rfl (by decide) (Nat.le_of_ble_eq_true rfl) (fun X C E => ?_)
  change G Γ X M 0 0 [some (.int p0)] [] 0
  unfold f_X11_needSlot at hf
  refine x_iload_n C rfl rfl (dkAt dk_X11_needSlot 0 rfl) 1 rfl ?_
  refine x_join hf (fun t1 => G Γ X M 0 0 [] [] 9) (fun t1 hf => ?_) (fun j2 hj2 hf => ?_)
  · exact t_throwW C E (n9 := 1) hf (by decide) (by decide) ⟨by decide, by decide, by decide, by decide⟩ (Nat.le_of_ble_eq_true rfl) (by decide) th_RX11_112_116.1 th_RX11_112_116.2.1 (hN.st (i := 35) rfl) th_RX11_112_116.2.2.1 th_RX11_112_116.2.2.2 (dkAt dk_X11_needSlot 5 rfl) (dkAt dk_X11_needSlot 6 rfl) (dkAt dk_X11_needSlot 7 rfl) (dkAt dk_X11_needSlot 8 rfl) (dkAt dk_X11_needSlot 9 rfl)
  · refine x_if_lt C 9 (dkAt dk_X11_needSlot 1 rfl) 4 rfl (by decide) hf (fun hf => ?_) (fun hf => ?_)
    · exact G.weak (L := []) trivial (hj2 _ hf)
    · refine x_iload_n C rfl rfl (dkAt dk_X11_needSlot 2 rfl) 5 rfl ?_
      refine x_iconst C (v := (2 : Int32)) (by decide) (dkAt dk_X11_needSlot 3 rfl) 6 rfl ?_
      refine x_icmp_lt C 20 (dkAt dk_X11_needSlot 4 rfl) 9 rfl (by decide) hf (fun hf => ?_) (fun hf => ?_)
      · exact t_vret C E hf (by decide) (by decide) (dkAt dk_X11_needSlot 10 rfl)
      · exact G.weak (L := []) trivial (hj2 _ hf)
def f_X11_save (Z : Nat) (M : Mem) (p0 : Int32) : Option (Except Nat Int32 × Mem) :=
  clT (f_X11_needChain Z M) (fun v1 M2 => clT (f_X11_needSlot Z M2 p0) (fun v3 M4 => cl (f_X3_put Z M4 p0) (fun v5 M6 => bd (gI M6 (10) 5) (fun v7 => some (.ok v7, M6)))) pr) pr
set_option maxRecDepth 100000 in
theorem c_X11_save {Γ : WC} (hN : HN Γ) {Z : Nat} {M : Mem} {p0 : Int32} {rM : Except Nat Int32 × Mem}  (hf : f_X11_save Z M p0 = some rM) : CtT Γ yX11_save cX11_save 2 (some .int) (rmL 7 2 12) [.ref (wad Γ 0), .int p0] M (fun v => some (.int v)) rM := by
  refine mkT hN.1 (own := RX11) rfl (by decide) (Nat.le_of_ble_eq_true rfl) (fun X C E => ?_)
  change G Γ X M 0 0 [some (.ref (wad Γ 0)), some (.int p0)] [] 0
  unfold f_X11_save at hf
  refine x_aload_n C rfl rfl (dkAt dk_X11_save 0 rfl) 1 rfl ?_
  refine t_cVv C E hf (fun r hr => c_X11_needChain hN hr) mw_X11_needChain ln_RX11_160 mi_X11_needChain (hN.rc (ci := 11) sh0 rc11) (ro_of (by decide) (by decide) (by decide) (by decide)) rfl rfl (Nat.le_of_ble_eq_true rfl) (dkAt dk_X11_save 1 rfl) 4 rfl 1 6 rfl rfl (by decide) (by decide) (fun v1 M2 hf => ?_)
  refine x_iload_n C rfl rfl (dkAt dk_X11_save 2 rfl) 5 rfl ?_
  refine t_cSv C E hf (fun r hr => c_X11_needSlot hN hr) mw_X11_needSlot ln_RX11_365 ms_X11_needSlot (ro_of (by decide) (by decide) (by decide) (by decide)) rfl rfl (Nat.le_of_ble_eq_true rfl) (dkAt dk_X11_save 3 rfl) 8 rfl 2 12 rfl rfl (by decide) (by decide) (fun v3 M4 hf => ?_)
  refine x_aload_n C rfl rfl (dkAt dk_X11_save 4 rfl) 9 rfl ?_
  refine x_getS C lk_RX11_49 (hN.sh sh0) (hN.sr sr0_4) (dkAt dk_X11_save 5 rfl) 12 rfl ?_
  refine x_iload_n C rfl rfl (dkAt dk_X11_save 6 rfl) 13 rfl ?_
  refine x_aload_n C rfl rfl (dkAt dk_X11_save 7 rfl) 14 rfl ?_
  refine x_getS C lk_RX11_42 (hN.sh sh0) (hN.sr sr0_3) (dkAt dk_X11_save 8 rfl) 17 rfl ?_
  obtain ⟨v5, M6, h8, hf⟩ := cl_inv hf
  refine x_cVv C (c_X3_put hN h8) mw_X3_put ln_RX11_368 mi_X3_put (hN.rc (ci := 3) sh35 rc3) (ro_of (by decide) (by decide) (by decide) (by decide)) rfl rfl (Nat.le_of_ble_eq_true rfl) (dkAt dk_X11_save 9 rfl) 20 rfl 2 12 rfl rfl ?_
  refine x_aload_n C rfl rfl (dkAt dk_X11_save 10 rfl) 21 rfl ?_
  refine x_getS C lk_RX11_42 (hN.sh sh0) (hN.sr sr0_3) (dkAt dk_X11_save 11 rfl) 24 rfl ?_
  refine x_getI C lk_RX11_293 (hN.sh sh10) (dkAt dk_X11_save 12 rfl) 27 rfl hf (fun v7 hf => ?_)
  exact t_iret C E hf (by decide) (by decide) (dkAt dk_X11_save 13 rfl)
def f_X11_restore (Z : Nat) (M : Mem) (p0 : Int32) : Option (Except Nat Int32 × Mem) :=
  clT (f_X11_needSlot Z M p0) (fun v1 M2 => cl (f_X3_isFull Z M2 p0) (fun v3 M4 => (if v3 = 0 then some (.error 0, M4) else cl (f_X3_take Z M4 p0) (fun v5 M6 => bd (gI M6 (10) 5) (fun v7 => some (.ok v7, M6)))))) pr
set_option maxRecDepth 100000 in
theorem c_X11_restore {Γ : WC} (hN : HN Γ) {Z : Nat} {M : Mem} {p0 : Int32} {rM : Except Nat Int32 × Mem}  (hf : f_X11_restore Z M p0 = some rM) : CtT Γ yX11_restore cX11_restore 2 (some .int) (rmL 7 2 12) [.ref (wad Γ 0), .int p0] M (fun v => some (.int v)) rM := by
  refine mkT hN.1 (own := RX11) rfl (by decide) (Nat.le_of_ble_eq_true rfl) (fun X C E => ?_)
  change G Γ X M 0 0 [some (.ref (wad Γ 0)), some (.int p0)] [] 0
  unfold f_X11_restore at hf
  refine x_iload_n C rfl rfl (dkAt dk_X11_restore 0 rfl) 1 rfl ?_
  refine t_cSv C E hf (fun r hr => c_X11_needSlot hN hr) mw_X11_needSlot ln_RX11_365 ms_X11_needSlot (ro_of (by decide) (by decide) (by decide) (by decide)) rfl rfl (Nat.le_of_ble_eq_true rfl) (dkAt dk_X11_restore 1 rfl) 4 rfl 1 6 rfl rfl (by decide) (by decide) (fun v1 M2 hf => ?_)
  refine x_aload_n C rfl rfl (dkAt dk_X11_restore 2 rfl) 5 rfl ?_
  refine x_getS C lk_RX11_49 (hN.sh sh0) (hN.sr sr0_4) (dkAt dk_X11_restore 3 rfl) 8 rfl ?_
  refine x_iload_n C rfl rfl (dkAt dk_X11_restore 4 rfl) 9 rfl ?_
  obtain ⟨v3, M4, h9, hf⟩ := cl_inv hf
  refine x_cVi C (c_X3_isFull hN h9) mw_X3_isFull ln_RX11_371 mi_X3_isFull (hN.rc (ci := 3) sh35 rc3) (ro_of (by decide) (by decide) (by decide) (by decide)) rfl rfl (Nat.le_of_ble_eq_true rfl) (dkAt dk_X11_restore 5 rfl) 12 rfl 1 6 rfl rfl ?_
  refine x_if_ne C 26 (dkAt dk_X11_restore 6 rfl) 15 rfl (by decide) hf (fun hf => ?_) (fun hf => ?_)
  · refine x_aload_n C rfl rfl (dkAt dk_X11_restore 12 rfl) 27 rfl ?_
    refine x_getS C lk_RX11_49 (hN.sh sh0) (hN.sr sr0_4) (dkAt dk_X11_restore 13 rfl) 30 rfl ?_
    refine x_iload_n C rfl rfl (dkAt dk_X11_restore 14 rfl) 31 rfl ?_
    refine x_aload_n C rfl rfl (dkAt dk_X11_restore 15 rfl) 32 rfl ?_
    refine x_getS C lk_RX11_42 (hN.sh sh0) (hN.sr sr0_3) (dkAt dk_X11_restore 16 rfl) 35 rfl ?_
    obtain ⟨v5, M6, h8, hf⟩ := cl_inv hf
    refine x_cVv C (c_X3_take hN h8) mw_X3_take ln_RX11_376 mi_X3_take (hN.rc (ci := 3) sh35 rc3) (ro_of (by decide) (by decide) (by decide) (by decide)) rfl rfl (Nat.le_of_ble_eq_true rfl) (dkAt dk_X11_restore 17 rfl) 38 rfl 1 6 rfl rfl ?_
    refine x_aload_n C rfl rfl (dkAt dk_X11_restore 18 rfl) 39 rfl ?_
    refine x_getS C lk_RX11_42 (hN.sh sh0) (hN.sr sr0_3) (dkAt dk_X11_restore 19 rfl) 42 rfl ?_
    refine x_getI C lk_RX11_293 (hN.sh sh10) (dkAt dk_X11_restore 20 rfl) 45 rfl hf (fun v7 hf => ?_)
    exact t_iret C E hf (by decide) (by decide) (dkAt dk_X11_restore 21 rfl)
  · exact t_throwW C E (n9 := 0) hf (by decide) (by decide) ⟨by decide, by decide, by decide, by decide⟩ (Nat.le_of_ble_eq_true rfl) (by decide) th_RX11_334_338.1 th_RX11_334_338.2.1 (hN.st (i := 36) rfl) th_RX11_334_338.2.2.1 th_RX11_334_338.2.2.2 (dkAt dk_X11_restore 7 rfl) (dkAt dk_X11_restore 8 rfl) (dkAt dk_X11_restore 9 rfl) (dkAt dk_X11_restore 10 rfl) (dkAt dk_X11_restore 11 rfl)
