def f_X12_takesPure_L2 (Z : Nat) : Nat → Int32 → Mem → Option (Unit × Mem)
  | 0, _, _ => none
  | n + 1, x1, M2 => rdI M2 112 344 (0 : Int32) (fun v3 => (if v3 ≤ x1 then some ((), M2) else rdI M2 121 6 x1 (fun v4 => cl (f_X12_givesAll Z M2 x1 v4) (fun v5 M6 => f_X12_takesPure_L2 Z n (x1 + (1 : Int32)) M6))))
def f_X12_takesPure (Z : Nat) (M : Mem)  : Option (Unit × Mem) :=
  f_X12_takesPure_L2 Z Z (0 : Int32) M
set_option maxRecDepth 100000 in
theorem l_X12_takesPure_L2 {Γ : WC} {X : MX} (hN : HN Γ) (C : CX Γ X cX12_takesPure 2 RX12 none (rmL 1 0 0)) {rM : Unit × Mem} (E : EndN Γ X none rM.2 0 0) {Z : Nat} : ∀ (n : Nat) (x1 : Int32) (M2 : Mem), f_X12_takesPure_L2 Z n x1 M2 = some rM → G Γ X M2 0 0 [some (.ref (wad Γ 108)), some (.int x1)] [] 2 := by
  intro n
  induction n with
  | zero =>
    intro x1 M2 hf
    have hf0 : (none : Option _) = some rM := hf
    cases hf0
  | succ n ih =>
    intro x1 M2 hf
    rw [f_X12_takesPure_L2] at hf
    refine x_iload_n C rfl rfl (dkAt dk_X12_takesPure 2 rfl) 3 rfl ?_
    refine x_aload_n C rfl rfl (dkAt dk_X12_takesPure 3 rfl) 4 rfl ?_
    refine x_getS C lk_RX12_20 (hN.sh sh108) (hN.sr sr108_6) (dkAt dk_X12_takesPure 4 rfl) 7 rfl ?_
    refine x_iconst C (v := (0 : Int32)) (by decide) (dkAt dk_X12_takesPure 5 rfl) 8 rfl ?_
    refine x_iald C (hN.sh sh112) (dkAt dk_X12_takesPure 6 rfl) 9 rfl hf (fun v3 hf => ?_)
    refine x_icmp_ge C 29 (dkAt dk_X12_takesPure 7 rfl) 12 rfl (by decide) hf (fun hf => ?_) (fun hf => ?_)
    · exact x_vret C E hf (by decide) (by decide) (dkAt dk_X12_takesPure 17 rfl)
    · refine x_aload_n C rfl rfl (dkAt dk_X12_takesPure 8 rfl) 13 rfl ?_
      refine x_iload_n C rfl rfl (dkAt dk_X12_takesPure 9 rfl) 14 rfl ?_
      refine x_aload_n C rfl rfl (dkAt dk_X12_takesPure 10 rfl) 15 rfl ?_
      refine x_getS C lk_RX12_52 (hN.sh sh108) (hN.sr sr108_26) (dkAt dk_X12_takesPure 11 rfl) 18 rfl ?_
      refine x_iload_n C rfl rfl (dkAt dk_X12_takesPure 12 rfl) 19 rfl ?_
      refine x_iald C (hN.sh sh121) (dkAt dk_X12_takesPure 13 rfl) 20 rfl hf (fun v4 hf => ?_)
      obtain ⟨v5, M6, h7, hf⟩ := cl_inv hf
      refine x_cVv C (c_X12_givesAll hN h7) mw_X12_givesAll ln_RX12_327 mi_X12_givesAll (hN.rc (ci := 12) sh108 rc12) (ro_of (by decide) (by decide) (by decide) (by decide)) rfl rfl (Nat.le_of_ble_eq_true rfl) (dkAt dk_X12_takesPure 14 rfl) 23 rfl 0 0 rfl rfl ?_
      refine x_iinc C (v := (x1 + (1 : Int32))) (L1 := [some (.ref (wad Γ 108)), some (.int (x1 + (1 : Int32)))]) (dkAt dk_X12_takesPure 15 rfl) 26 rfl rfl rfl (by decide) rfl ?_
      refine x_goto C 2 (dkAt dk_X12_takesPure 16 rfl) (by decide) ?_
      exact G.weak (L := [some (.ref (wad Γ 108)), some (.int (x1 + (1 : Int32)))]) ⟨rfl, rfl, trivial⟩ (ih _ _ hf)
set_option maxRecDepth 100000 in
theorem c_X12_takesPure {Γ : WC} (hN : HN Γ) {Z : Nat} {M : Mem}  {rM : Unit × Mem}  (hf : f_X12_takesPure Z M  = some rM) : Ct Γ yX12_takesPure cX12_takesPure 2 none (rmL 1 0 0) [.ref (wad Γ 108)] M none rM.2 := by
  refine mkN hN.1 (own := RX12) rfl (by decide) (Nat.le_of_ble_eq_true rfl) (fun X C E => ?_)
  change G Γ X M 0 0 [some (.ref (wad Γ 108))] [] 0
  unfold f_X12_takesPure at hf
  refine x_iconst C (v := (0 : Int32)) (by decide) (dkAt dk_X12_takesPure 0 rfl) 1 rfl ?_
  refine x_istore_n C (L1 := [some (.ref (wad Γ 108)), some (.int (0 : Int32))]) (dkAt dk_X12_takesPure 1 rfl) 2 rfl rfl (by decide) rfl ?_
  refine G.weak (L := [some (.ref (wad Γ 108)), some (.int (0 : Int32))]) ⟨rfl, rfl, trivial⟩ ?_
  refine l_X12_takesPure_L2 hN C E Z _ _ hf
def f_X12_keepsBest_L25 (Z : Nat) : Nat → Int32 → Mem → Option (Unit × Mem)
  | 0, _, _ => none
  | n + 1, x4, M5 => rdI M5 112 344 (0 : Int32) (fun v6 => (if v6 ≤ x4 then some ((), M5) else rdI M5 121 6 x4 (fun v7 => wrI M5 122 6 x4 v7 (fun M8 => f_X12_keepsBest_L25 Z n (x4 + (1 : Int32)) M8))))
def f_X12_keepsBest (Z : Nat) (M : Mem) (p0 : Int64) : Option (Unit × Mem) :=
  bd (gI M (108) 28) (fun v1 => jn (fun (t2 : Unit) => bd (sL M (108) 29 p0) (fun M3 => f_X12_keepsBest_L25 Z Z (0 : Int32) M3)) (fun j9 => (if v1 ≤ (1 : Int32) then j9 () else bd (gL M (108) 29) (fun v10 => (if v10 < p0 then j9 () else some ((), M))))))
set_option maxRecDepth 100000 in
theorem l_X12_keepsBest_L25 {Γ : WC} {X : MX} (hN : HN Γ) (C : CX Γ X cX12_keepsBest 4 RX12 none (rmL 0 0 0)) {rM : Unit × Mem} (E : EndN Γ X none rM.2 0 0) {Z : Nat} : ∀ (n : Nat) (x4 : Int32) (M5 : Mem), f_X12_keepsBest_L25 Z n x4 M5 = some rM → G Γ X M5 0 0 [some (.ref (wad Γ 108)), none, none, some (.int x4)] [] 25 := by
  intro n
  induction n with
  | zero =>
    intro x4 M5 hf
    have hf0 : (none : Option _) = some rM := hf
    cases hf0
  | succ n ih =>
    intro x4 M5 hf
    rw [f_X12_keepsBest_L25] at hf
    refine x_iload_n C rfl rfl (dkAt dk_X12_keepsBest 15 rfl) 26 rfl ?_
    refine x_aload_n C rfl rfl (dkAt dk_X12_keepsBest 16 rfl) 27 rfl ?_
    refine x_getS C lk_RX12_20 (hN.sh sh108) (hN.sr sr108_6) (dkAt dk_X12_keepsBest 17 rfl) 30 rfl ?_
    refine x_iconst C (v := (0 : Int32)) (by decide) (dkAt dk_X12_keepsBest 18 rfl) 31 rfl ?_
    refine x_iald C (hN.sh sh112) (dkAt dk_X12_keepsBest 19 rfl) 32 rfl hf (fun v6 hf => ?_)
    refine x_icmp_ge C 53 (dkAt dk_X12_keepsBest 20 rfl) 35 rfl (by decide) hf (fun hf => ?_) (fun hf => ?_)
    · exact x_vret C E hf (by decide) (by decide) (dkAt dk_X12_keepsBest 31 rfl)
    · refine x_aload_n C rfl rfl (dkAt dk_X12_keepsBest 21 rfl) 36 rfl ?_
      refine x_getS C lk_RX12_55 (hN.sh sh108) (hN.sr sr108_27) (dkAt dk_X12_keepsBest 22 rfl) 39 rfl ?_
      refine x_iload_n C rfl rfl (dkAt dk_X12_keepsBest 23 rfl) 40 rfl ?_
      refine x_aload_n C rfl rfl (dkAt dk_X12_keepsBest 24 rfl) 41 rfl ?_
      refine x_getS C lk_RX12_52 (hN.sh sh108) (hN.sr sr108_26) (dkAt dk_X12_keepsBest 25 rfl) 44 rfl ?_
      refine x_iload_n C rfl rfl (dkAt dk_X12_keepsBest 26 rfl) 45 rfl ?_
      refine x_iald C (hN.sh sh121) (dkAt dk_X12_keepsBest 27 rfl) 46 rfl hf (fun v7 hf => ?_)
      refine x_iast C (hN.sh sh122) (dkAt dk_X12_keepsBest 28 rfl) 47 rfl hf (fun M8 hf => ?_)
      refine x_iinc C (v := (x4 + (1 : Int32))) (L1 := [some (.ref (wad Γ 108)), none, none, some (.int (x4 + (1 : Int32)))]) (dkAt dk_X12_keepsBest 29 rfl) 50 rfl rfl rfl (by decide) rfl ?_
      refine x_goto C 25 (dkAt dk_X12_keepsBest 30 rfl) (by decide) ?_
      exact G.weak (L := [some (.ref (wad Γ 108)), none, none, some (.int (x4 + (1 : Int32)))]) ⟨rfl, rfl, trivial⟩ (ih _ _ hf)
set_option maxRecDepth 100000 in
theorem c_X12_keepsBest {Γ : WC} (hN : HN Γ) {Z : Nat} {M : Mem} {p0 : Int64} {rM : Unit × Mem}  (hf : f_X12_keepsBest Z M p0 = some rM) : Ct Γ yX12_keepsBest cX12_keepsBest 4 none (rmL 0 0 0) [.ref (wad Γ 108), .long p0] M none rM.2 := by
  refine mkN hN.1 (own := RX12) rfl (by decide) (Nat.le_of_ble_eq_true rfl) (fun X C E => ?_)
  change G Γ X M 0 0 [some (.ref (wad Γ 108)), some (.long p0), none] [] 0
  unfold f_X12_keepsBest at hf
  refine x_aload_n C rfl rfl (dkAt dk_X12_keepsBest 0 rfl) 1 rfl ?_
  refine x_getI C lk_RX12_333 (hN.sh sh108) (dkAt dk_X12_keepsBest 1 rfl) 4 rfl hf (fun v1 hf => ?_)
  refine x_iconst C (v := (1 : Int32)) (by decide) (dkAt dk_X12_keepsBest 2 rfl) 5 rfl ?_
  refine x_join hf (fun t2 => G Γ X M 0 0 [some (.ref (wad Γ 108)), some (.long p0)] [] 18) (fun t2 hf => ?_) (fun j9 hj9 hf => ?_)
  · refine x_aload_n C rfl rfl (dkAt dk_X12_keepsBest 10 rfl) 19 rfl ?_
    refine x_lload_n C rfl rfl (dkAt dk_X12_keepsBest 11 rfl) 20 rfl ?_
    refine x_putL C pk_RX12_338 ⟨_, rfl⟩ (hN.sh sh108) (dkAt dk_X12_keepsBest 12 rfl) 23 rfl hf (fun M3 hf => ?_)
    refine x_iconst C (v := (0 : Int32)) (by decide) (dkAt dk_X12_keepsBest 13 rfl) 24 rfl ?_
    refine x_istore_n C (L1 := [some (.ref (wad Γ 108)), some (.long p0), none, some (.int (0 : Int32))]) (dkAt dk_X12_keepsBest 14 rfl) 25 rfl rfl (by decide) rfl ?_
    refine G.weak (L := [some (.ref (wad Γ 108)), none, none, some (.int (0 : Int32))]) ⟨rfl, rfl, trivial⟩ ?_
    refine l_X12_keepsBest_L25 hN C E Z _ _ hf
  · refine x_icmp_le C 18 (dkAt dk_X12_keepsBest 3 rfl) 8 rfl (by decide) hf (fun hf => ?_) (fun hf => ?_)
    · exact G.weak (L := [some (.ref (wad Γ 108)), some (.long p0)]) ⟨rfl, rfl, trivial⟩ (hj9 _ hf)
    · refine x_lload_n C rfl rfl (dkAt dk_X12_keepsBest 4 rfl) 9 rfl ?_
      refine x_aload_n C rfl rfl (dkAt dk_X12_keepsBest 5 rfl) 10 rfl ?_
      refine x_getL C lk_RX12_338 (hN.sh sh108) (dkAt dk_X12_keepsBest 6 rfl) 13 rfl hf (fun v10 hf => ?_)
      refine x_lcmp_gt C 18 (dkAt dk_X12_keepsBest 7 rfl) 17 rfl (dkAt dk_X12_keepsBest 8 rfl) (by decide) hf (fun hf => ?_) (fun hf => ?_)
      · exact G.weak (L := [some (.ref (wad Γ 108)), some (.long p0)]) ⟨rfl, rfl, trivial⟩ (hj9 _ hf)
      · exact x_vret C E hf (by decide) (by decide) (dkAt dk_X12_keepsBest 9 rfl)
def f_X12_fetches_L2 (Z : Nat) (p0 : Int32) : Nat → Int32 → Mem → Option (Unit × Mem)
  | 0, _, _ => none
  | n + 1, x1, M2 => (if (54 : Int32) ≤ x1 then some ((), M2) else rdI M2 110 540 (((54 : Int32) * p0) + x1) (fun v3 => wrI M2 109 54 x1 v3 (fun M4 => f_X12_fetches_L2 Z p0 n (x1 + (1 : Int32)) M4)))
def f_X12_fetches (Z : Nat) (M : Mem) (p0 : Int32) : Option (Unit × Mem) :=
  f_X12_fetches_L2 Z p0 Z (0 : Int32) M
set_option maxRecDepth 100000 in
theorem l_X12_fetches_L2 {Γ : WC} {X : MX} (hN : HN Γ) (C : CX Γ X cX12_fetches 3 RX12 none (rmL 0 0 0)) {rM : Unit × Mem} (E : EndN Γ X none rM.2 0 0) {Z : Nat} {p0 : Int32} : ∀ (n : Nat) (x1 : Int32) (M2 : Mem), f_X12_fetches_L2 Z p0 n x1 M2 = some rM → G Γ X M2 0 0 [some (.ref (wad Γ 108)), some (.int p0), some (.int x1)] [] 2 := by
  intro n
  induction n with
  | zero =>
    intro x1 M2 hf
    have hf0 : (none : Option _) = some rM := hf
    cases hf0
  | succ n ih =>
    intro x1 M2 hf
    rw [f_X12_fetches_L2] at hf
    refine x_iload_n C rfl rfl (dkAt dk_X12_fetches 2 rfl) 3 rfl ?_
    refine x_bipush C (v := (54 : Int32)) (by decide) (dkAt dk_X12_fetches 3 rfl) 5 rfl ?_
    refine x_icmp_ge C 31 (dkAt dk_X12_fetches 4 rfl) 8 rfl (by decide) hf (fun hf => ?_) (fun hf => ?_)
    · exact x_vret C E hf (by decide) (by decide) (dkAt dk_X12_fetches 19 rfl)
    · refine x_aload_n C rfl rfl (dkAt dk_X12_fetches 5 rfl) 9 rfl ?_
      refine x_getS C lk_RX12_7 (hN.sh sh108) (hN.sr sr108_2) (dkAt dk_X12_fetches 6 rfl) 12 rfl ?_
      refine x_iload_n C rfl rfl (dkAt dk_X12_fetches 7 rfl) 13 rfl ?_
      refine x_aload_n C rfl rfl (dkAt dk_X12_fetches 8 rfl) 14 rfl ?_
      refine x_getS C lk_RX12_13 (hN.sh sh108) (hN.sr sr108_3) (dkAt dk_X12_fetches 9 rfl) 17 rfl ?_
      refine x_bipush C (v := (54 : Int32)) (by decide) (dkAt dk_X12_fetches 10 rfl) 19 rfl ?_
      refine x_iload_n C rfl rfl (dkAt dk_X12_fetches 11 rfl) 20 rfl ?_
      refine x_imul C (dkAt dk_X12_fetches 12 rfl) 21 rfl ?_
      refine x_iload_n C rfl rfl (dkAt dk_X12_fetches 13 rfl) 22 rfl ?_
      refine x_iadd C (dkAt dk_X12_fetches 14 rfl) 23 rfl ?_
      refine x_iald C (hN.sh sh110) (dkAt dk_X12_fetches 15 rfl) 24 rfl hf (fun v3 hf => ?_)
      refine x_iast C (hN.sh sh109) (dkAt dk_X12_fetches 16 rfl) 25 rfl hf (fun M4 hf => ?_)
      refine x_iinc C (v := (x1 + (1 : Int32))) (L1 := [some (.ref (wad Γ 108)), some (.int p0), some (.int (x1 + (1 : Int32)))]) (dkAt dk_X12_fetches 17 rfl) 28 rfl rfl rfl (by decide) rfl ?_
      refine x_goto C 2 (dkAt dk_X12_fetches 18 rfl) (by decide) ?_
      exact G.weak (L := [some (.ref (wad Γ 108)), some (.int p0), some (.int (x1 + (1 : Int32)))]) ⟨rfl, rfl, rfl, trivial⟩ (ih _ _ hf)
set_option maxRecDepth 100000 in
theorem c_X12_fetches {Γ : WC} (hN : HN Γ) {Z : Nat} {M : Mem} {p0 : Int32} {rM : Unit × Mem}  (hf : f_X12_fetches Z M p0 = some rM) : Ct Γ yX12_fetches cX12_fetches 3 none (rmL 0 0 0) [.ref (wad Γ 108), .int p0] M none rM.2 := by
  refine mkN hN.1 (own := RX12) rfl (by decide) (Nat.le_of_ble_eq_true rfl) (fun X C E => ?_)
  change G Γ X M 0 0 [some (.ref (wad Γ 108)), some (.int p0)] [] 0
  unfold f_X12_fetches at hf
  refine x_iconst C (v := (0 : Int32)) (by decide) (dkAt dk_X12_fetches 0 rfl) 1 rfl ?_
  refine x_istore_n C (L1 := [some (.ref (wad Γ 108)), some (.int p0), some (.int (0 : Int32))]) (dkAt dk_X12_fetches 1 rfl) 2 rfl rfl (by decide) rfl ?_
  refine G.weak (L := [some (.ref (wad Γ 108)), some (.int p0), some (.int (0 : Int32))]) ⟨rfl, rfl, rfl, trivial⟩ ?_
  refine l_X12_fetches_L2 hN C E Z _ _ hf
def f_X12_findsBest_L18 (Z : Nat) (k : Mem → Option (Int64 × Mem)) : Nat → Int32 → Mem → Option (Int64 × Mem)
  | 0, _, _ => none
  | n + 1, x5, M6 => (if x5 = 0 then k M6 else cl (f_X12_takesPure Z M6) (fun v7 M8 => cl (f_X12_isAllowed Z M8) (fun v9 M10 => jn (fun (t11 : Mem) => cl (f_X12_turns Z t11) (fun v12 M13 => f_X12_findsBest_L18 Z k n v12 M13)) (fun j15 => (if v9 = 0 then j15 M10 else cl (f_X12_brokenNow Z M10) (fun v16 M17 => (if v16 = 0 then bd (gI M17 (108) 28) (fun v18 => bd (sI M17 (108) 28 (v18 + (1 : Int32))) (fun M19 => cl (f_X12_ofRun Z M19 (-1 : Int32)) (fun v20 M21 => cl (f_X12_keepsBest Z M21 v20) (fun v22 M23 => j15 M23)))) else j15 M17)))))))
def f_X12_findsBest (Z : Nat) (M : Mem)  : Option (Int64 × Mem) :=
  cl (f_X12_beginsPure Z M) (fun v1 M2 => bd (sI M2 (108) 28 (0 : Int32)) (fun M3 => bd (sL M3 (108) 29 (-9223372036854775808 : Int64)) (fun M4 => f_X12_findsBest_L18 Z (fun (M29 : Mem) => cl (f_X12_fetches Z M29 (0 : Int32)) (fun v30 M31 => bd (gL M31 (108) 29) (fun v32 => some (v32, M31)))) Z (1 : Int32) M4)))
set_option maxRecDepth 100000 in
theorem l_X12_findsBest_L18 {Γ : WC} {X : MX} (hN : HN Γ) (C : CX Γ X cX12_findsBest 2 RX12 (some .long) (rmL 6 0 0)) {rM : Int64 × Mem} (E : EndN Γ X (some (.long rM.1)) rM.2 0 0) {Z : Nat} {k : Mem → Option (Int64 × Mem)} (hk : ∀  (Mx : Mem), k Mx = some rM → G Γ X Mx 0 0 [some (.ref (wad Γ 108))] [] 67) : ∀ (n : Nat) (x5 : Int32) (M6 : Mem), f_X12_findsBest_L18 Z k n x5 M6 = some rM → G Γ X M6 0 0 [some (.ref (wad Γ 108)), some (.int x5)] [] 18 := by
  intro n
  induction n with
  | zero =>
    intro x5 M6 hf
    have hf0 : (none : Option _) = some rM := hf
    cases hf0
  | succ n ih =>
    intro x5 M6 hf
    rw [f_X12_findsBest_L18] at hf
    refine x_iload_n C rfl rfl (dkAt dk_X12_findsBest 10 rfl) 19 rfl ?_
    refine x_if_eq C 67 (dkAt dk_X12_findsBest 11 rfl) 22 rfl (by decide) hf (fun hf => ?_) (fun hf => ?_)
    · exact G.weak (L := [some (.ref (wad Γ 108))]) ⟨rfl, trivial⟩ (hk _ hf)
    · refine x_aload_n C rfl rfl (dkAt dk_X12_findsBest 12 rfl) 23 rfl ?_
      obtain ⟨v7, M8, h28, hf⟩ := cl_inv hf
      refine x_cVv C (c_X12_takesPure hN h28) mw_X12_takesPure ln_RX12_342 mi_X12_takesPure (hN.rc (ci := 12) sh108 rc12) (ro_of (by decide) (by decide) (by decide) (by decide)) rfl rfl (Nat.le_of_ble_eq_true rfl) (dkAt dk_X12_findsBest 13 rfl) 26 rfl 0 0 rfl rfl ?_
      refine x_aload_n C rfl rfl (dkAt dk_X12_findsBest 14 rfl) 27 rfl ?_
      obtain ⟨v9, M10, h27, hf⟩ := cl_inv hf
      refine x_cVi C (c_X12_isAllowed hN h27) mw_X12_isAllowed ln_RX12_345 mi_X12_isAllowed (hN.rc (ci := 12) sh108 rc12) (ro_of (by decide) (by decide) (by decide) (by decide)) rfl rfl (Nat.le_of_ble_eq_true rfl) (dkAt dk_X12_findsBest 15 rfl) 30 rfl 0 0 rfl rfl ?_
      refine x_join hf (fun t11 => G Γ X t11 0 0 [some (.ref (wad Γ 108))] [] 59) (fun t11 hf => ?_) (fun j15 hj15 hf => ?_)
      · refine x_aload_n C rfl rfl (dkAt dk_X12_findsBest 31 rfl) 60 rfl ?_
        obtain ⟨v12, M13, h14, hf⟩ := cl_inv hf
        refine x_cVi C (c_X12_turns hN h14) mw_X12_turns ln_RX12_352 mi_X12_turns (hN.rc (ci := 12) sh108 rc12) (ro_of (by decide) (by decide) (by decide) (by decide)) rfl rfl (Nat.le_of_ble_eq_true rfl) (dkAt dk_X12_findsBest 32 rfl) 63 rfl 0 0 rfl rfl ?_
        refine x_istore_n C (L1 := [some (.ref (wad Γ 108)), some (.int v12)]) (dkAt dk_X12_findsBest 33 rfl) 64 rfl rfl (by decide) rfl ?_
        refine x_goto C 18 (dkAt dk_X12_findsBest 34 rfl) (by decide) ?_
        exact G.weak (L := [some (.ref (wad Γ 108)), some (.int v12)]) ⟨rfl, rfl, trivial⟩ (ih _ _ hf)
      · refine x_if_eq C 59 (dkAt dk_X12_findsBest 16 rfl) 33 rfl (by decide) hf (fun hf => ?_) (fun hf => ?_)
        · exact G.weak (L := [some (.ref (wad Γ 108))]) ⟨rfl, trivial⟩ (hj15 _ hf)
        · refine x_aload_n C rfl rfl (dkAt dk_X12_findsBest 17 rfl) 34 rfl ?_
          obtain ⟨v16, M17, h26, hf⟩ := cl_inv hf
          refine x_cVi C (c_X12_brokenNow hN h26) mw_X12_brokenNow ln_RX12_293 mi_X12_brokenNow (hN.rc (ci := 12) sh108 rc12) (ro_of (by decide) (by decide) (by decide) (by decide)) rfl rfl (Nat.le_of_ble_eq_true rfl) (dkAt dk_X12_findsBest 18 rfl) 37 rfl 0 0 rfl rfl ?_
          refine x_if_ne C 59 (dkAt dk_X12_findsBest 19 rfl) 40 rfl (by decide) hf (fun hf => ?_) (fun hf => ?_)
          · exact G.weak (L := [some (.ref (wad Γ 108))]) ⟨rfl, trivial⟩ (hj15 _ hf)
          · refine x_aload_n C rfl rfl (dkAt dk_X12_findsBest 20 rfl) 41 rfl ?_
            refine x_dup C rfl (dkAt dk_X12_findsBest 21 rfl) 42 rfl ?_
            refine x_getI C lk_RX12_333 (hN.sh sh108) (dkAt dk_X12_findsBest 22 rfl) 45 rfl hf (fun v18 hf => ?_)
            refine x_iconst C (v := (1 : Int32)) (by decide) (dkAt dk_X12_findsBest 23 rfl) 46 rfl ?_
            refine x_iadd C (dkAt dk_X12_findsBest 24 rfl) 47 rfl ?_
            refine x_putI C pk_RX12_333 ⟨_, rfl⟩ (hN.sh sh108) (dkAt dk_X12_findsBest 25 rfl) 50 rfl hf (fun M19 hf => ?_)
            refine x_aload_n C rfl rfl (dkAt dk_X12_findsBest 26 rfl) 51 rfl ?_
            refine x_aload_n C rfl rfl (dkAt dk_X12_findsBest 27 rfl) 52 rfl ?_
            refine x_iconst C (v := (-1 : Int32)) (by decide) (dkAt dk_X12_findsBest 28 rfl) 53 rfl ?_
            obtain ⟨v20, M21, h25, hf⟩ := cl_inv hf
            refine x_cVl C (c_X12_ofRun hN h25) mw_X12_ofRun ln_RX12_287 mi_X12_ofRun (hN.rc (ci := 12) sh108 rc12) (ro_of (by decide) (by decide) (by decide) (by decide)) rfl rfl (Nat.le_of_ble_eq_true rfl) (dkAt dk_X12_findsBest 29 rfl) 56 rfl 0 0 rfl rfl ?_
            obtain ⟨v22, M23, h24, hf⟩ := cl_inv hf
            refine x_cVv C (c_X12_keepsBest hN h24) mw_X12_keepsBest ln_RX12_348 mi_X12_keepsBest (hN.rc (ci := 12) sh108 rc12) (ro_of (by decide) (by decide) (by decide) (by decide)) rfl rfl (Nat.le_of_ble_eq_true rfl) (dkAt dk_X12_findsBest 30 rfl) 59 rfl 0 0 rfl rfl ?_
            exact G.weak (L := [some (.ref (wad Γ 108))]) ⟨rfl, trivial⟩ (hj15 _ hf)
set_option maxRecDepth 100000 in
theorem c_X12_findsBest {Γ : WC} (hN : HN Γ) {Z : Nat} {M : Mem}  {rM : Int64 × Mem}  (hf : f_X12_findsBest Z M  = some rM) : Ct Γ yX12_findsBest cX12_findsBest 2 (some .long) (rmL 6 0 0) [.ref (wad Γ 108)] M (some (.long rM.1)) rM.2 := by
  refine mkN hN.1 (own := RX12) rfl (by decide) (Nat.le_of_ble_eq_true rfl) (fun X C E => ?_)
  change G Γ X M 0 0 [some (.ref (wad Γ 108))] [] 0
  unfold f_X12_findsBest at hf
  refine x_aload_n C rfl rfl (dkAt dk_X12_findsBest 0 rfl) 1 rfl ?_
  obtain ⟨v1, M2, h34, hf⟩ := cl_inv hf
  refine x_cVv C (c_X12_beginsPure hN h34) mw_X12_beginsPure ln_RX12_330 mi_X12_beginsPure (hN.rc (ci := 12) sh108 rc12) (ro_of (by decide) (by decide) (by decide) (by decide)) rfl rfl (Nat.le_of_ble_eq_true rfl) (dkAt dk_X12_findsBest 1 rfl) 4 rfl 0 0 rfl rfl ?_
  refine x_aload_n C rfl rfl (dkAt dk_X12_findsBest 2 rfl) 5 rfl ?_
  refine x_iconst C (v := (0 : Int32)) (by decide) (dkAt dk_X12_findsBest 3 rfl) 6 rfl ?_
  refine x_putI C pk_RX12_333 ⟨_, rfl⟩ (hN.sh sh108) (dkAt dk_X12_findsBest 4 rfl) 9 rfl hf (fun M3 hf => ?_)
  refine x_aload_n C rfl rfl (dkAt dk_X12_findsBest 5 rfl) 10 rfl ?_
  refine x_ldc2 C (v := (-9223372036854775808 : Int64)) cl_RX12_336 (dkAt dk_X12_findsBest 6 rfl) 13 rfl ?_
  refine x_putL C pk_RX12_338 ⟨_, rfl⟩ (hN.sh sh108) (dkAt dk_X12_findsBest 7 rfl) 16 rfl hf (fun M4 hf => ?_)
  refine x_iconst C (v := (1 : Int32)) (by decide) (dkAt dk_X12_findsBest 8 rfl) 17 rfl ?_
  refine x_istore_n C (L1 := [some (.ref (wad Γ 108)), some (.int (1 : Int32))]) (dkAt dk_X12_findsBest 9 rfl) 18 rfl rfl (by decide) rfl ?_
  refine G.weak (L := [some (.ref (wad Γ 108)), some (.int (1 : Int32))]) ⟨rfl, rfl, trivial⟩ ?_
  refine l_X12_findsBest_L18 hN C E ?_ Z _ _ hf
  intro M29 hf
  refine x_aload_n C rfl rfl (dkAt dk_X12_findsBest 35 rfl) 68 rfl ?_
  refine x_iconst C (v := (0 : Int32)) (by decide) (dkAt dk_X12_findsBest 36 rfl) 69 rfl ?_
  obtain ⟨v30, M31, h33, hf⟩ := cl_inv hf
  refine x_cVv C (c_X12_fetches hN h33) mw_X12_fetches ln_RX12_355 mi_X12_fetches (hN.rc (ci := 12) sh108 rc12) (ro_of (by decide) (by decide) (by decide) (by decide)) rfl rfl (Nat.le_of_ble_eq_true rfl) (dkAt dk_X12_findsBest 37 rfl) 72 rfl 0 0 rfl rfl ?_
  refine x_aload_n C rfl rfl (dkAt dk_X12_findsBest 38 rfl) 73 rfl ?_
  refine x_getL C lk_RX12_338 (hN.sh sh108) (dkAt dk_X12_findsBest 39 rfl) 76 rfl hf (fun v32 hf => ?_)
  exact x_lret C E hf (by decide) (by decide) (dkAt dk_X12_findsBest 40 rfl)
def f_X12_bestGain (Z : Nat) (M : Mem)  : Option (Int64 × Mem) :=
  cl (f_X12_noChain Z M) (fun v1 M2 => (if v1 = 0 then cl (f_X12_findsBest Z M2) (fun v3 M4 => some (v3, M4)) else some ((0 : Int64), M2)))
set_option maxRecDepth 100000 in
theorem c_X12_bestGain {Γ : WC} (hN : HN Γ) {Z : Nat} {M : Mem}  {rM : Int64 × Mem}  (hf : f_X12_bestGain Z M  = some rM) : Ct Γ yX12_bestGain cX12_bestGain 1 (some .long) (rmL 7 0 0) [.ref (wad Γ 108)] M (some (.long rM.1)) rM.2 := by
  refine mkN hN.1 (own := RX12) rfl (by decide) (Nat.le_of_ble_eq_true rfl) (fun X C E => ?_)
  change G Γ X M 0 0 [some (.ref (wad Γ 108))] [] 0
  unfold f_X12_bestGain at hf
  refine x_aload_n C rfl rfl (dkAt dk_X12_bestGain 0 rfl) 1 rfl ?_
  obtain ⟨v1, M2, h6, hf⟩ := cl_inv hf
  refine x_cVi C (c_X12_noChain hN h6) mw_X12_noChain ln_RX12_222 mi_X12_noChain (hN.rc (ci := 12) sh108 rc12) (ro_of (by decide) (by decide) (by decide) (by decide)) rfl rfl (Nat.le_of_ble_eq_true rfl) (dkAt dk_X12_bestGain 1 rfl) 4 rfl 0 0 rfl rfl ?_
  refine x_if_eq C 11 (dkAt dk_X12_bestGain 2 rfl) 7 rfl (by decide) hf (fun hf => ?_) (fun hf => ?_)
  · refine x_aload_n C rfl rfl (dkAt dk_X12_bestGain 5 rfl) 12 rfl ?_
    obtain ⟨v3, M4, h5, hf⟩ := cl_inv hf
    refine x_cVl C (c_X12_findsBest hN h5) mw_X12_findsBest ln_RX12_358 mi_X12_findsBest (hN.rc (ci := 12) sh108 rc12) (ro_of (by decide) (by decide) (by decide) (by decide)) rfl rfl (Nat.le_of_ble_eq_true rfl) (dkAt dk_X12_bestGain 6 rfl) 15 rfl 0 0 rfl rfl ?_
    exact x_lret C E hf (by decide) (by decide) (dkAt dk_X12_bestGain 7 rfl)
  · refine x_lconst C (v := (0 : Int64)) (by decide) (dkAt dk_X12_bestGain 3 rfl) 8 rfl ?_
    refine x_goto C 15 (dkAt dk_X12_bestGain 4 rfl) (by decide) ?_
    exact x_lret C E hf (by decide) (by decide) (dkAt dk_X12_bestGain 7 rfl)
def f_X12_bestAction (Z : Nat) (M : Mem) (p0 : Int32) : Option (Int32 × Mem) :=
  cl (f_X12_noState Z M p0) (fun v1 M2 => (if v1 = 0 then cl (f_X12_findsBest Z M2) (fun v3 M4 => bd (gI M4 (108) 28) (fun v5 => (if v5 ≤ 0 then some ((-1 : Int32), M4) else rdI M4 122 6 p0 (fun v6 => some (v6, M4))))) else some ((0 : Int32), M2)))
set_option maxRecDepth 100000 in
theorem c_X12_bestAction {Γ : WC} (hN : HN Γ) {Z : Nat} {M : Mem} {p0 : Int32} {rM : Int32 × Mem}  (hf : f_X12_bestAction Z M p0 = some rM) : Ct Γ yX12_bestAction cX12_bestAction 2 (some .int) (rmL 7 0 0) [.ref (wad Γ 108), .int p0] M (some (.int rM.1)) rM.2 := by
  refine mkN hN.1 (own := RX12) rfl (by decide) (Nat.le_of_ble_eq_true rfl) (fun X C E => ?_)
  change G Γ X M 0 0 [some (.ref (wad Γ 108)), some (.int p0)] [] 0
  unfold f_X12_bestAction at hf
  refine x_aload_n C rfl rfl (dkAt dk_X12_bestAction 0 rfl) 1 rfl ?_
  refine x_iload_n C rfl rfl (dkAt dk_X12_bestAction 1 rfl) 2 rfl ?_
  obtain ⟨v1, M2, h8, hf⟩ := cl_inv hf
  refine x_cVi C (c_X12_noState hN h8) mw_X12_noState ln_RX12_236 mi_X12_noState (hN.rc (ci := 12) sh108 rc12) (ro_of (by decide) (by decide) (by decide) (by decide)) rfl rfl (Nat.le_of_ble_eq_true rfl) (dkAt dk_X12_bestAction 2 rfl) 5 rfl 0 0 rfl rfl ?_
  refine x_if_eq C 10 (dkAt dk_X12_bestAction 3 rfl) 8 rfl (by decide) hf (fun hf => ?_) (fun hf => ?_)
  · refine x_aload_n C rfl rfl (dkAt dk_X12_bestAction 6 rfl) 11 rfl ?_
    obtain ⟨v3, M4, h7, hf⟩ := cl_inv hf
    refine x_cVl C (c_X12_findsBest hN h7) mw_X12_findsBest ln_RX12_358 mi_X12_findsBest (hN.rc (ci := 12) sh108 rc12) (ro_of (by decide) (by decide) (by decide) (by decide)) rfl rfl (Nat.le_of_ble_eq_true rfl) (dkAt dk_X12_bestAction 7 rfl) 14 rfl 0 0 rfl rfl ?_
    refine x_pop2 C rfl (dkAt dk_X12_bestAction 8 rfl) 15 rfl ?_
    refine x_aload_n C rfl rfl (dkAt dk_X12_bestAction 9 rfl) 16 rfl ?_
    refine x_getI C lk_RX12_333 (hN.sh sh108) (dkAt dk_X12_bestAction 10 rfl) 19 rfl hf (fun v5 hf => ?_)
    refine x_if_le C 31 (dkAt dk_X12_bestAction 11 rfl) 22 rfl (by decide) hf (fun hf => ?_) (fun hf => ?_)
    · refine x_iconst C (v := (-1 : Int32)) (by decide) (dkAt dk_X12_bestAction 17 rfl) 32 rfl ?_
      exact x_iret C E hf (by decide) (by decide) (dkAt dk_X12_bestAction 18 rfl)
    · refine x_aload_n C rfl rfl (dkAt dk_X12_bestAction 12 rfl) 23 rfl ?_
      refine x_getS C lk_RX12_55 (hN.sh sh108) (hN.sr sr108_27) (dkAt dk_X12_bestAction 13 rfl) 26 rfl ?_
      refine x_iload_n C rfl rfl (dkAt dk_X12_bestAction 14 rfl) 27 rfl ?_
      refine x_iald C (hN.sh sh122) (dkAt dk_X12_bestAction 15 rfl) 28 rfl hf (fun v6 hf => ?_)
      refine x_goto C 32 (dkAt dk_X12_bestAction 16 rfl) (by decide) ?_
      exact x_iret C E hf (by decide) (by decide) (dkAt dk_X12_bestAction 18 rfl)
  · refine x_iconst C (v := (0 : Int32)) (by decide) (dkAt dk_X12_bestAction 4 rfl) 9 rfl ?_
    exact x_iret C E hf (by decide) (by decide) (dkAt dk_X12_bestAction 5 rfl)
def f_X12_pureSets (Z : Nat) (M : Mem)  : Option (Int32 × Mem) :=
  cl (f_X12_noChain Z M) (fun v1 M2 => (if v1 = 0 then cl (f_X12_findsBest Z M2) (fun v3 M4 => bd (gI M4 (108) 28) (fun v5 => some (v5, M4))) else some ((0 : Int32), M2)))
set_option maxRecDepth 100000 in
theorem c_X12_pureSets {Γ : WC} (hN : HN Γ) {Z : Nat} {M : Mem}  {rM : Int32 × Mem}  (hf : f_X12_pureSets Z M  = some rM) : Ct Γ yX12_pureSets cX12_pureSets 1 (some .int) (rmL 7 0 0) [.ref (wad Γ 108)] M (some (.int rM.1)) rM.2 := by
  refine mkN hN.1 (own := RX12) rfl (by decide) (Nat.le_of_ble_eq_true rfl) (fun X C E => ?_)
  change G Γ X M 0 0 [some (.ref (wad Γ 108))] [] 0
  unfold f_X12_pureSets at hf
  refine x_aload_n C rfl rfl (dkAt dk_X12_pureSets 0 rfl) 1 rfl ?_
  obtain ⟨v1, M2, h7, hf⟩ := cl_inv hf
  refine x_cVi C (c_X12_noChain hN h7) mw_X12_noChain ln_RX12_222 mi_X12_noChain (hN.rc (ci := 12) sh108 rc12) (ro_of (by decide) (by decide) (by decide) (by decide)) rfl rfl (Nat.le_of_ble_eq_true rfl) (dkAt dk_X12_pureSets 1 rfl) 4 rfl 0 0 rfl rfl ?_
  refine x_if_eq C 9 (dkAt dk_X12_pureSets 2 rfl) 7 rfl (by decide) hf (fun hf => ?_) (fun hf => ?_)
  · refine x_aload_n C rfl rfl (dkAt dk_X12_pureSets 5 rfl) 10 rfl ?_
    obtain ⟨v3, M4, h6, hf⟩ := cl_inv hf
    refine x_cVl C (c_X12_findsBest hN h6) mw_X12_findsBest ln_RX12_358 mi_X12_findsBest (hN.rc (ci := 12) sh108 rc12) (ro_of (by decide) (by decide) (by decide) (by decide)) rfl rfl (Nat.le_of_ble_eq_true rfl) (dkAt dk_X12_pureSets 6 rfl) 13 rfl 0 0 rfl rfl ?_
    refine x_pop2 C rfl (dkAt dk_X12_pureSets 7 rfl) 14 rfl ?_
    refine x_aload_n C rfl rfl (dkAt dk_X12_pureSets 8 rfl) 15 rfl ?_
    refine x_getI C lk_RX12_333 (hN.sh sh108) (dkAt dk_X12_pureSets 9 rfl) 18 rfl hf (fun v5 hf => ?_)
    exact x_iret C E hf (by decide) (by decide) (dkAt dk_X12_pureSets 10 rfl)
  · refine x_iconst C (v := (0 : Int32)) (by decide) (dkAt dk_X12_pureSets 3 rfl) 8 rfl ?_
    exact x_iret C E hf (by decide) (by decide) (dkAt dk_X12_pureSets 4 rfl)
def f_X12_worth (Z : Nat) (M : Mem) (p0 : Int32) (p1 : Int32) : Option (Int64 × Mem) :=
  cl (f_X12_noBudget Z M p0) (fun v1 M2 => (if v1 = 0 then cl (f_X12_in Z M2 p1.toInt64 (1 : Int64) (9999 : Int64)) (fun v3 M4 => jn (fun (t5 : Int32) => cl (f_X12_refuse Z M4 t5 (3 : Int32)) (fun v6 M7 => (if v6 = 0 then cl (f_X12_findsBest Z M7) (fun v8 M9 => bd (gI M9 (108) 28) (fun v10 => (if v10 = 0 then some ((-9223372036854775808 : Int64), M9) else rdI M9 109 54 ((40 : Int32) + p0) (fun v11 => wrI M9 109 54 ((40 : Int32) + p0) (v11 + p1) (fun M12 => cl (f_X12_findsBest Z M12) (fun v13 M14 => rdI M14 109 54 ((40 : Int32) + p0) (fun v15 => wrI M14 109 54 ((40 : Int32) + p0) (v15 - p1) (fun M16 => some ((v13 - v8), M16))))))))) else some ((0 : Int64), M7)))) (fun j20 => (if v3 = 0 then j20 (1 : Int32) else j20 (0 : Int32)))) else some ((0 : Int64), M2)))
set_option maxRecDepth 100000 in
theorem c_X12_worth {Γ : WC} (hN : HN Γ) {Z : Nat} {M : Mem} {p0 : Int32} {p1 : Int32} {rM : Int64 × Mem}  (hf : f_X12_worth Z M p0 p1 = some rM) : Ct Γ yX12_worth cX12_worth 7 (some .long) (rmL 7 0 0) [.ref (wad Γ 108), .int p0, .int p1] M (some (.long rM.1)) rM.2 := by
  refine mkN hN.1 (own := RX12) rfl (by decide) (Nat.le_of_ble_eq_true rfl) (fun X C E => ?_)
  change G Γ X M 0 0 [some (.ref (wad Γ 108)), some (.int p0), some (.int p1)] [] 0
  unfold f_X12_worth at hf
  refine x_aload_n C rfl rfl (dkAt dk_X12_worth 0 rfl) 1 rfl ?_
  refine x_iload_n C rfl rfl (dkAt dk_X12_worth 1 rfl) 2 rfl ?_
  obtain ⟨v1, M2, h22, hf⟩ := cl_inv hf
  refine x_cVi C (c_X12_noBudget hN h22) mw_X12_noBudget ln_RX12_258 mi_X12_noBudget (hN.rc (ci := 12) sh108 rc12) (ro_of (by decide) (by decide) (by decide) (by decide)) rfl rfl (Nat.le_of_ble_eq_true rfl) (dkAt dk_X12_worth 2 rfl) 5 rfl 0 0 rfl rfl ?_
  refine x_if_ne C 33 (dkAt dk_X12_worth 3 rfl) 8 rfl (by decide) hf (fun hf => ?_) (fun hf => ?_)
  · refine x_lconst C (v := (0 : Int64)) (by decide) (dkAt dk_X12_worth 17 rfl) 34 rfl ?_
    exact x_lret C E hf (by decide) (by decide) (dkAt dk_X12_worth 18 rfl)
  · refine x_aload_n C rfl rfl (dkAt dk_X12_worth 4 rfl) 9 rfl ?_
    refine x_iload_n C rfl rfl (dkAt dk_X12_worth 5 rfl) 10 rfl ?_
    refine x_i2l C (dkAt dk_X12_worth 6 rfl) 11 rfl ?_
    refine x_lconst C (v := (1 : Int64)) (by decide) (dkAt dk_X12_worth 7 rfl) 12 rfl ?_
    refine x_ldc2 C (v := (9999 : Int64)) cl_RX12_361 (dkAt dk_X12_worth 8 rfl) 15 rfl ?_
    obtain ⟨v3, M4, h21, hf⟩ := cl_inv hf
    refine x_cSi C (c_X12_in hN h21) mw_X12_in ln_RX12_137 ms_X12_in (ro_of (by decide) (by decide) (by decide) (by decide)) rfl rfl (Nat.le_of_ble_eq_true rfl) (dkAt dk_X12_worth 9 rfl) 18 rfl 0 0 rfl rfl ?_
    refine x_join hf (fun t5 => G Γ X M4 0 0 [some (.ref (wad Γ 108)), some (.int p0), some (.int p1)] [.int t5, .ref (wad Γ 108)] 26) (fun t5 hf => ?_) (fun j20 hj20 hf => ?_)
    · refine x_iconst C (v := (3 : Int32)) (by decide) (dkAt dk_X12_worth 14 rfl) 27 rfl ?_
      obtain ⟨v6, M7, h19, hf⟩ := cl_inv hf
      refine x_cVi C (c_X12_refuse hN h19) mw_X12_refuse ln_RX12_68 mi_X12_refuse (hN.rc (ci := 12) sh108 rc12) (ro_of (by decide) (by decide) (by decide) (by decide)) rfl rfl (Nat.le_of_ble_eq_true rfl) (dkAt dk_X12_worth 15 rfl) 30 rfl 0 0 rfl rfl ?_
      refine x_if_eq C 35 (dkAt dk_X12_worth 16 rfl) 33 rfl (by decide) hf (fun hf => ?_) (fun hf => ?_)
      · refine x_aload_n C rfl rfl (dkAt dk_X12_worth 19 rfl) 36 rfl ?_
        obtain ⟨v8, M9, h18, hf⟩ := cl_inv hf
        refine x_cVl C (c_X12_findsBest hN h18) mw_X12_findsBest ln_RX12_358 mi_X12_findsBest (hN.rc (ci := 12) sh108 rc12) (ro_of (by decide) (by decide) (by decide) (by decide)) rfl rfl (Nat.le_of_ble_eq_true rfl) (dkAt dk_X12_worth 20 rfl) 39 rfl 0 0 rfl rfl ?_
        refine x_lstore_n C (L1 := [some (.ref (wad Γ 108)), some (.int p0), some (.int p1), some (.long v8)]) (dkAt dk_X12_worth 21 rfl) 40 rfl rfl (by decide) rfl ?_
        refine x_aload_n C rfl rfl (dkAt dk_X12_worth 22 rfl) 41 rfl ?_
        refine x_getI C lk_RX12_333 (hN.sh sh108) (dkAt dk_X12_worth 23 rfl) 44 rfl hf (fun v10 hf => ?_)
        refine x_if_ne C 51 (dkAt dk_X12_worth 24 rfl) 47 rfl (by decide) hf (fun hf => ?_) (fun hf => ?_)
        · refine x_aload_n C rfl rfl (dkAt dk_X12_worth 27 rfl) 52 rfl ?_
          refine x_getS C lk_RX12_7 (hN.sh sh108) (hN.sr sr108_2) (dkAt dk_X12_worth 28 rfl) 55 rfl ?_
          refine x_bipush C (v := (40 : Int32)) (by decide) (dkAt dk_X12_worth 29 rfl) 57 rfl ?_
          refine x_iload_n C rfl rfl (dkAt dk_X12_worth 30 rfl) 58 rfl ?_
          refine x_iadd C (dkAt dk_X12_worth 31 rfl) 59 rfl ?_
          refine x_dup2 C rfl rfl (dkAt dk_X12_worth 32 rfl) 60 rfl ?_
          refine x_iald C (hN.sh sh109) (dkAt dk_X12_worth 33 rfl) 61 rfl hf (fun v11 hf => ?_)
          refine x_iload_n C rfl rfl (dkAt dk_X12_worth 34 rfl) 62 rfl ?_
          refine x_iadd C (dkAt dk_X12_worth 35 rfl) 63 rfl ?_
          refine x_iast C (hN.sh sh109) (dkAt dk_X12_worth 36 rfl) 64 rfl hf (fun M12 hf => ?_)
          refine x_aload_n C rfl rfl (dkAt dk_X12_worth 37 rfl) 65 rfl ?_
          obtain ⟨v13, M14, h17, hf⟩ := cl_inv hf
          refine x_cVl C (c_X12_findsBest hN h17) mw_X12_findsBest ln_RX12_358 mi_X12_findsBest (hN.rc (ci := 12) sh108 rc12) (ro_of (by decide) (by decide) (by decide) (by decide)) rfl rfl (Nat.le_of_ble_eq_true rfl) (dkAt dk_X12_worth 38 rfl) 68 rfl 0 0 rfl rfl ?_
          refine x_lstore C (L1 := [some (.ref (wad Γ 108)), some (.int p0), some (.int p1), some (.long v8), none, some (.long v13)]) (dkAt dk_X12_worth 39 rfl) 70 rfl (by decide) rfl ?_
          refine x_aload_n C rfl rfl (dkAt dk_X12_worth 40 rfl) 71 rfl ?_
          refine x_getS C lk_RX12_7 (hN.sh sh108) (hN.sr sr108_2) (dkAt dk_X12_worth 41 rfl) 74 rfl ?_
          refine x_bipush C (v := (40 : Int32)) (by decide) (dkAt dk_X12_worth 42 rfl) 76 rfl ?_
          refine x_iload_n C rfl rfl (dkAt dk_X12_worth 43 rfl) 77 rfl ?_
          refine x_iadd C (dkAt dk_X12_worth 44 rfl) 78 rfl ?_
          refine x_dup2 C rfl rfl (dkAt dk_X12_worth 45 rfl) 79 rfl ?_
          refine x_iald C (hN.sh sh109) (dkAt dk_X12_worth 46 rfl) 80 rfl hf (fun v15 hf => ?_)
          refine x_iload_n C rfl rfl (dkAt dk_X12_worth 47 rfl) 81 rfl ?_
          refine x_isub C (dkAt dk_X12_worth 48 rfl) 82 rfl ?_
          refine x_iast C (hN.sh sh109) (dkAt dk_X12_worth 49 rfl) 83 rfl hf (fun M16 hf => ?_)
          refine x_lload C rfl (dkAt dk_X12_worth 50 rfl) 85 rfl ?_
          refine x_lload_n C rfl rfl (dkAt dk_X12_worth 51 rfl) 86 rfl ?_
          refine x_lsub C (dkAt dk_X12_worth 52 rfl) 87 rfl ?_
          exact x_lret C E hf (by decide) (by decide) (dkAt dk_X12_worth 53 rfl)
        · refine x_ldc2 C (v := (-9223372036854775808 : Int64)) cl_RX12_336 (dkAt dk_X12_worth 25 rfl) 50 rfl ?_
          exact x_lret C E hf (by decide) (by decide) (dkAt dk_X12_worth 26 rfl)
      · refine x_lconst C (v := (0 : Int64)) (by decide) (dkAt dk_X12_worth 17 rfl) 34 rfl ?_
        exact x_lret C E hf (by decide) (by decide) (dkAt dk_X12_worth 18 rfl)
    · refine x_if_ne C 25 (dkAt dk_X12_worth 10 rfl) 21 rfl (by decide) hf (fun hf => ?_) (fun hf => ?_)
      · refine x_iconst C (v := (0 : Int32)) (by decide) (dkAt dk_X12_worth 13 rfl) 26 rfl ?_
        exact G.weak (L := [some (.ref (wad Γ 108)), some (.int p0), some (.int p1)]) ⟨rfl, rfl, rfl, trivial⟩ (hj20 _ hf)
      · refine x_iconst C (v := (1 : Int32)) (by decide) (dkAt dk_X12_worth 11 rfl) 22 rfl ?_
        refine x_goto C 26 (dkAt dk_X12_worth 12 rfl) (by decide) ?_
        exact G.weak (L := [some (.ref (wad Γ 108)), some (.int p0), some (.int p1)]) ⟨rfl, rfl, rfl, trivial⟩ (hj20 _ hf)
def f_X12_leastLimit_L27 (Z : Nat) (p0 : Int32) (v5 : Int64) (k : Int64 → Mem → Option (Int32 × Mem)) : Nat → Int64 → Int32 → Mem → Option (Int32 × Mem)
  | 0, _, _, _ => none
  | n + 1, x7, x8, M9 => (if x8 = 0 then k x7 M9 else cl (f_X12_takesPure Z M9) (fun v10 M11 => cl (f_X12_isAllowed Z M11) (fun v12 M13 => jn (fun (t14 : Int64 × Mem) => cl (f_X12_turns Z t14.2) (fun v15 M16 => f_X12_leastLimit_L27 Z p0 v5 k n t14.1 v15 M16)) (fun j18 => (if v12 = 0 then j18 (x7, M13) else cl (f_X12_brokenNow Z M13) (fun v19 M20 => (if (v19 &&& (((1 : Int32) <<< (p0 &&& 31)) ^^^ (-1 : Int32))) = 0 then cl (f_X12_ofRun Z M20 p0) (fun v21 M22 => nzL v5 ((if x7 ≤ (((v21 + v5) - (1 : Int64)) / v5) then j18 (x7, M22) else j18 ((((v21 + v5) - (1 : Int64)) / v5), M22)))) else j18 (x7, M20))))))))
def f_X12_leastLimit (Z : Nat) (M : Mem) (p0 : Int32) : Option (Int32 × Mem) :=
  cl (f_X12_noBudget Z M p0) (fun v1 M2 => (if v1 = 0 then cl (f_X12_beginsPure Z M2) (fun v3 M4 => cl (f_X12_unitNow Z M4) (fun v5 M6 => f_X12_leastLimit_L27 Z p0 v5 (fun (y27 : Int64) (M28 : Mem) => cl (f_X12_fetches Z M28 (0 : Int32)) (fun v29 M30 => (if y27 ≤ (9999 : Int64) then some (y27.toInt32, M30) else some ((-1 : Int32), M30)))) Z (10000 : Int64) (1 : Int32) M6)) else some ((0 : Int32), M2)))
set_option maxRecDepth 100000 in
theorem l_X12_leastLimit_L27 {Γ : WC} {X : MX} (hN : HN Γ) (C : CX Γ X cX12_leastLimit 9 RX12 (some .int) (rmL 6 0 0)) {rM : Int32 × Mem} (E : EndN Γ X (some (.int rM.1)) rM.2 0 0) {Z : Nat} {p0 : Int32} {v5 : Int64} {k : Int64 → Mem → Option (Int32 × Mem)} (hk : ∀ (a2 : Int64) (Mx : Mem), k a2 Mx = some rM → G Γ X Mx 0 0 [some (.ref (wad Γ 108)), none, some (.long a2)] [] 94) : ∀ (n : Nat) (x7 : Int64) (x8 : Int32) (M9 : Mem), f_X12_leastLimit_L27 Z p0 v5 k n x7 x8 M9 = some rM → G Γ X M9 0 0 [some (.ref (wad Γ 108)), some (.int p0), some (.long x7), none, some (.long v5), none, some (.int x8)] [] 27 := by
  intro n
  induction n with
  | zero =>
    intro x7 x8 M9 hf
    have hf0 : (none : Option _) = some rM := hf
    cases hf0
  | succ n ih =>
    intro x7 x8 M9 hf
    rw [f_X12_leastLimit_L27] at hf
    refine x_iload C rfl (dkAt dk_X12_leastLimit 15 rfl) 29 rfl ?_
    refine x_if_eq C 94 (dkAt dk_X12_leastLimit 16 rfl) 32 rfl (by decide) hf (fun hf => ?_) (fun hf => ?_)
    · exact G.weak (L := [some (.ref (wad Γ 108)), none, some (.long x7)]) ⟨rfl, rfl, trivial⟩ (hk _ _ hf)
    · refine x_aload_n C rfl rfl (dkAt dk_X12_leastLimit 17 rfl) 33 rfl ?_
      obtain ⟨v10, M11, h26, hf⟩ := cl_inv hf
      refine x_cVv C (c_X12_takesPure hN h26) mw_X12_takesPure ln_RX12_342 mi_X12_takesPure (hN.rc (ci := 12) sh108 rc12) (ro_of (by decide) (by decide) (by decide) (by decide)) rfl rfl (Nat.le_of_ble_eq_true rfl) (dkAt dk_X12_leastLimit 18 rfl) 36 rfl 0 0 rfl rfl ?_
      refine x_aload_n C rfl rfl (dkAt dk_X12_leastLimit 19 rfl) 37 rfl ?_
      obtain ⟨v12, M13, h25, hf⟩ := cl_inv hf
      refine x_cVi C (c_X12_isAllowed hN h25) mw_X12_isAllowed ln_RX12_345 mi_X12_isAllowed (hN.rc (ci := 12) sh108 rc12) (ro_of (by decide) (by decide) (by decide) (by decide)) rfl rfl (Nat.le_of_ble_eq_true rfl) (dkAt dk_X12_leastLimit 20 rfl) 40 rfl 0 0 rfl rfl ?_
      refine x_join hf (fun t14 => G Γ X t14.2 0 0 [some (.ref (wad Γ 108)), some (.int p0), some (.long t14.1), none, some (.long v5)] [] 85) (fun t14 hf => ?_) (fun j18 hj18 hf => ?_)
      · refine x_aload_n C rfl rfl (dkAt dk_X12_leastLimit 49 rfl) 86 rfl ?_
        obtain ⟨v15, M16, h17, hf⟩ := cl_inv hf
        refine x_cVi C (c_X12_turns hN h17) mw_X12_turns ln_RX12_352 mi_X12_turns (hN.rc (ci := 12) sh108 rc12) (ro_of (by decide) (by decide) (by decide) (by decide)) rfl rfl (Nat.le_of_ble_eq_true rfl) (dkAt dk_X12_leastLimit 50 rfl) 89 rfl 0 0 rfl rfl ?_
        refine x_istore C (L1 := [some (.ref (wad Γ 108)), some (.int p0), some (.long t14.1), none, some (.long v5), none, some (.int v15)]) (dkAt dk_X12_leastLimit 51 rfl) 91 rfl (by decide) rfl ?_
        refine x_goto C 27 (dkAt dk_X12_leastLimit 52 rfl) (by decide) ?_
        exact G.weak (L := [some (.ref (wad Γ 108)), some (.int p0), some (.long t14.1), none, some (.long v5), none, some (.int v15)]) ⟨rfl, rfl, rfl, rfl, rfl, trivial⟩ (ih _ _ _ hf)
      · refine x_if_eq C 85 (dkAt dk_X12_leastLimit 21 rfl) 43 rfl (by decide) hf (fun hf => ?_) (fun hf => ?_)
        · exact G.weak (L := [some (.ref (wad Γ 108)), some (.int p0), some (.long x7), none, some (.long v5)]) ⟨rfl, rfl, rfl, rfl, trivial⟩ (hj18 _ hf)
        · refine x_aload_n C rfl rfl (dkAt dk_X12_leastLimit 22 rfl) 44 rfl ?_
          obtain ⟨v19, M20, h24, hf⟩ := cl_inv hf
          refine x_cVi C (c_X12_brokenNow hN h24) mw_X12_brokenNow ln_RX12_293 mi_X12_brokenNow (hN.rc (ci := 12) sh108 rc12) (ro_of (by decide) (by decide) (by decide) (by decide)) rfl rfl (Nat.le_of_ble_eq_true rfl) (dkAt dk_X12_leastLimit 23 rfl) 47 rfl 0 0 rfl rfl ?_
          refine x_iconst C (v := (1 : Int32)) (by decide) (dkAt dk_X12_leastLimit 24 rfl) 48 rfl ?_
          refine x_iload_n C rfl rfl (dkAt dk_X12_leastLimit 25 rfl) 49 rfl ?_
          refine x_ishl C (dkAt dk_X12_leastLimit 26 rfl) 50 rfl ?_
          refine x_iconst C (v := (-1 : Int32)) (by decide) (dkAt dk_X12_leastLimit 27 rfl) 51 rfl ?_
          refine x_ixor C (dkAt dk_X12_leastLimit 28 rfl) 52 rfl ?_
          refine x_iand C (dkAt dk_X12_leastLimit 29 rfl) 53 rfl ?_
          refine x_if_ne C 85 (dkAt dk_X12_leastLimit 30 rfl) 56 rfl (by decide) hf (fun hf => ?_) (fun hf => ?_)
          · exact G.weak (L := [some (.ref (wad Γ 108)), some (.int p0), some (.long x7), none, some (.long v5)]) ⟨rfl, rfl, rfl, rfl, trivial⟩ (hj18 _ hf)
          · refine x_aload_n C rfl rfl (dkAt dk_X12_leastLimit 31 rfl) 57 rfl ?_
            refine x_iload_n C rfl rfl (dkAt dk_X12_leastLimit 32 rfl) 58 rfl ?_
            obtain ⟨v21, M22, h23, hf⟩ := cl_inv hf
            refine x_cVl C (c_X12_ofRun hN h23) mw_X12_ofRun ln_RX12_287 mi_X12_ofRun (hN.rc (ci := 12) sh108 rc12) (ro_of (by decide) (by decide) (by decide) (by decide)) rfl rfl (Nat.le_of_ble_eq_true rfl) (dkAt dk_X12_leastLimit 33 rfl) 61 rfl 0 0 rfl rfl ?_
            refine x_lload C rfl (dkAt dk_X12_leastLimit 34 rfl) 63 rfl ?_
            refine x_ladd C (dkAt dk_X12_leastLimit 35 rfl) 64 rfl ?_
            refine x_lconst C (v := (1 : Int64)) (by decide) (dkAt dk_X12_leastLimit 36 rfl) 65 rfl ?_
            refine x_lsub C (dkAt dk_X12_leastLimit 37 rfl) 66 rfl ?_
            refine x_lload C rfl (dkAt dk_X12_leastLimit 38 rfl) 68 rfl ?_
            refine x_ldiv C (dkAt dk_X12_leastLimit 39 rfl) 69 rfl hf (fun hf => ?_)
            refine x_lstore C (L1 := [some (.ref (wad Γ 108)), some (.int p0), some (.long x7), none, some (.long v5), none, some (.int x8), some (.long (((v21 + v5) - (1 : Int64)) / v5))]) (dkAt dk_X12_leastLimit 40 rfl) 71 rfl (by decide) rfl ?_
            refine x_lload C rfl (dkAt dk_X12_leastLimit 41 rfl) 73 rfl ?_
            refine x_lload_n C rfl rfl (dkAt dk_X12_leastLimit 42 rfl) 74 rfl ?_
            refine x_lcmp_ge C 83 (dkAt dk_X12_leastLimit 43 rfl) 78 rfl (dkAt dk_X12_leastLimit 44 rfl) (by decide) hf (fun hf => ?_) (fun hf => ?_)
            · refine x_lload_n C rfl rfl (dkAt dk_X12_leastLimit 47 rfl) 84 rfl ?_
              refine x_lstore_n C (L1 := [some (.ref (wad Γ 108)), some (.int p0), some (.long x7), none, some (.long v5), none, some (.int x8), some (.long (((v21 + v5) - (1 : Int64)) / v5))]) (dkAt dk_X12_leastLimit 48 rfl) 85 rfl rfl (by decide) rfl ?_
              exact G.weak (L := [some (.ref (wad Γ 108)), some (.int p0), some (.long x7), none, some (.long v5)]) ⟨rfl, rfl, rfl, rfl, trivial⟩ (hj18 _ hf)
            · refine x_lload C rfl (dkAt dk_X12_leastLimit 45 rfl) 80 rfl ?_
              refine x_goto C 84 (dkAt dk_X12_leastLimit 46 rfl) (by decide) ?_
              refine x_lstore_n C (L1 := [some (.ref (wad Γ 108)), some (.int p0), some (.long (((v21 + v5) - (1 : Int64)) / v5)), none, some (.long v5), none, some (.int x8), some (.long (((v21 + v5) - (1 : Int64)) / v5))]) (dkAt dk_X12_leastLimit 48 rfl) 85 rfl rfl (by decide) rfl ?_
              exact G.weak (L := [some (.ref (wad Γ 108)), some (.int p0), some (.long (((v21 + v5) - (1 : Int64)) / v5)), none, some (.long v5)]) ⟨rfl, rfl, rfl, rfl, trivial⟩ (hj18 _ hf)
set_option maxRecDepth 100000 in
theorem c_X12_leastLimit {Γ : WC} (hN : HN Γ) {Z : Nat} {M : Mem} {p0 : Int32} {rM : Int32 × Mem}  (hf : f_X12_leastLimit Z M p0 = some rM) : Ct Γ yX12_leastLimit cX12_leastLimit 9 (some .int) (rmL 6 0 0) [.ref (wad Γ 108), .int p0] M (some (.int rM.1)) rM.2 := by
  refine mkN hN.1 (own := RX12) rfl (by decide) (Nat.le_of_ble_eq_true rfl) (fun X C E => ?_)
  change G Γ X M 0 0 [some (.ref (wad Γ 108)), some (.int p0)] [] 0
  unfold f_X12_leastLimit at hf
  refine x_aload_n C rfl rfl (dkAt dk_X12_leastLimit 0 rfl) 1 rfl ?_
  refine x_iload_n C rfl rfl (dkAt dk_X12_leastLimit 1 rfl) 2 rfl ?_
  obtain ⟨v1, M2, h34, hf⟩ := cl_inv hf
  refine x_cVi C (c_X12_noBudget hN h34) mw_X12_noBudget ln_RX12_258 mi_X12_noBudget (hN.rc (ci := 12) sh108 rc12) (ro_of (by decide) (by decide) (by decide) (by decide)) rfl rfl (Nat.le_of_ble_eq_true rfl) (dkAt dk_X12_leastLimit 2 rfl) 5 rfl 0 0 rfl rfl ?_
  refine x_if_eq C 10 (dkAt dk_X12_leastLimit 3 rfl) 8 rfl (by decide) hf (fun hf => ?_) (fun hf => ?_)
  · refine x_aload_n C rfl rfl (dkAt dk_X12_leastLimit 6 rfl) 11 rfl ?_
    obtain ⟨v3, M4, h33, hf⟩ := cl_inv hf
    refine x_cVv C (c_X12_beginsPure hN h33) mw_X12_beginsPure ln_RX12_330 mi_X12_beginsPure (hN.rc (ci := 12) sh108 rc12) (ro_of (by decide) (by decide) (by decide) (by decide)) rfl rfl (Nat.le_of_ble_eq_true rfl) (dkAt dk_X12_leastLimit 7 rfl) 14 rfl 0 0 rfl rfl ?_
    refine x_ldc2 C (v := (10000 : Int64)) cl_RX12_363 (dkAt dk_X12_leastLimit 8 rfl) 17 rfl ?_
    refine x_lstore_n C (L1 := [some (.ref (wad Γ 108)), some (.int p0), some (.long (10000 : Int64))]) (dkAt dk_X12_leastLimit 9 rfl) 18 rfl rfl (by decide) rfl ?_
    refine x_aload_n C rfl rfl (dkAt dk_X12_leastLimit 10 rfl) 19 rfl ?_
    obtain ⟨v5, M6, h32, hf⟩ := cl_inv hf
    refine x_cVl C (c_X12_unitNow hN h32) mw_X12_unitNow ln_RX12_283 mi_X12_unitNow (hN.rc (ci := 12) sh108 rc12) (ro_of (by decide) (by decide) (by decide) (by decide)) rfl rfl (Nat.le_of_ble_eq_true rfl) (dkAt dk_X12_leastLimit 11 rfl) 22 rfl 0 0 rfl rfl ?_
    refine x_lstore C (L1 := [some (.ref (wad Γ 108)), some (.int p0), some (.long (10000 : Int64)), none, some (.long v5)]) (dkAt dk_X12_leastLimit 12 rfl) 24 rfl (by decide) rfl ?_
    refine x_iconst C (v := (1 : Int32)) (by decide) (dkAt dk_X12_leastLimit 13 rfl) 25 rfl ?_
    refine x_istore C (L1 := [some (.ref (wad Γ 108)), some (.int p0), some (.long (10000 : Int64)), none, some (.long v5), none, some (.int (1 : Int32))]) (dkAt dk_X12_leastLimit 14 rfl) 27 rfl (by decide) rfl ?_
    refine G.weak (L := [some (.ref (wad Γ 108)), some (.int p0), some (.long (10000 : Int64)), none, some (.long v5), none, some (.int (1 : Int32))]) ⟨rfl, rfl, rfl, rfl, rfl, trivial⟩ ?_
    refine l_X12_leastLimit_L27 hN C E ?_ Z _ _ _ hf
    intro y27 M28 hf
    refine x_aload_n C rfl rfl (dkAt dk_X12_leastLimit 53 rfl) 95 rfl ?_
    refine x_iconst C (v := (0 : Int32)) (by decide) (dkAt dk_X12_leastLimit 54 rfl) 96 rfl ?_
    obtain ⟨v29, M30, h31, hf⟩ := cl_inv hf
    refine x_cVv C (c_X12_fetches hN h31) mw_X12_fetches ln_RX12_355 mi_X12_fetches (hN.rc (ci := 12) sh108 rc12) (ro_of (by decide) (by decide) (by decide) (by decide)) rfl rfl (Nat.le_of_ble_eq_true rfl) (dkAt dk_X12_leastLimit 55 rfl) 99 rfl 0 0 rfl rfl ?_
    refine x_lload_n C rfl rfl (dkAt dk_X12_leastLimit 56 rfl) 100 rfl ?_
    refine x_ldc2 C (v := (9999 : Int64)) cl_RX12_361 (dkAt dk_X12_leastLimit 57 rfl) 103 rfl ?_
    refine x_lcmp_le C 111 (dkAt dk_X12_leastLimit 58 rfl) 107 rfl (dkAt dk_X12_leastLimit 59 rfl) (by decide) hf (fun hf => ?_) (fun hf => ?_)
    · refine x_lload_n C rfl rfl (dkAt dk_X12_leastLimit 62 rfl) 112 rfl ?_
      refine x_l2i C (dkAt dk_X12_leastLimit 63 rfl) 113 rfl ?_
      exact x_iret C E hf (by decide) (by decide) (dkAt dk_X12_leastLimit 64 rfl)
    · refine x_iconst C (v := (-1 : Int32)) (by decide) (dkAt dk_X12_leastLimit 60 rfl) 108 rfl ?_
      refine x_goto C 113 (dkAt dk_X12_leastLimit 61 rfl) (by decide) ?_
      exact x_iret C E hf (by decide) (by decide) (dkAt dk_X12_leastLimit 64 rfl)
  · refine x_iconst C (v := (0 : Int32)) (by decide) (dkAt dk_X12_leastLimit 4 rfl) 9 rfl ?_
    exact x_iret C E hf (by decide) (by decide) (dkAt dk_X12_leastLimit 5 rfl)
def f_X12_bestWeight_L72 (Z : Nat) (p0 : Int32) (p1 : Int32) (p2 : Int32) (k : Int32 → Mem → Option (Int32 × Mem)) : Nat → Int32 → Int64 → Int32 → Mem → Option (Int32 × Mem)
  | 0, _, _, _, _ => none
  | n + 1, x13, x14, x15, M16 => (if (10 : Int32) < x15 then k x13 M16 else cl (f_X12_givesAll Z M16 p0 p1) (fun v17 M18 => wrI M18 109 54 (((4 : Int32) + ((3 : Int32) * p0)) + p1) ((10 : Int32) - x15) (fun M19 => wrI M19 109 54 (((4 : Int32) + ((3 : Int32) * p0)) + p2) x15 (fun M20 => cl (f_X12_brokenNow Z M20) (fun v21 M22 => jn (fun (t23 : Int32 × Int64 × Mem) => f_X12_bestWeight_L72 Z p0 p1 p2 k n t23.1 t23.2.1 (x15 + (1 : Int32)) t23.2.2) (fun j24 => (if v21 = 0 then jn (fun (t25 : Mem) => cl (f_X12_ofRun Z t25 (-1 : Int32)) (fun v26 M27 => j24 (x15, v26, M27))) (fun j29 => (if x13 < 0 then j29 M22 else cl (f_X12_ofRun Z M22 (-1 : Int32)) (fun v30 M31 => (if x14 < v30 then j29 M31 else j24 (x13, x14, M31))))) else j24 (x13, x14, M22))))))))
def f_X12_bestWeight (Z : Nat) (M : Mem) (p0 : Int32) (p1 : Int32) (p2 : Int32) : Option (Int32 × Mem) :=
  cl (f_X12_noChain Z M) (fun v1 M2 => (if v1 = 0 then cl (f_X12_isAction Z M2 p0 p1) (fun v3 M4 => jn (fun (t5 : Int32 × Mem) => cl (f_X12_refuse Z t5.2 t5.1 (2 : Int32)) (fun v6 M7 => (if v6 = 0 then jn (fun (t8 : Int32) => cl (f_X12_refuse Z M7 t8 (3 : Int32)) (fun v9 M10 => (if v9 = 0 then cl (f_X12_keeps Z M10 (0 : Int32)) (fun v11 M12 => f_X12_bestWeight_L72 Z p0 p1 p2 (fun (y35 : Int32) (M36 : Mem) => cl (f_X12_fetches Z M36 (0 : Int32)) (fun v37 M38 => some (y35, M38))) Z (-1 : Int32) (0 : Int64) (0 : Int32) M12) else some ((0 : Int32), M10)))) (fun j42 => (if p1 = p2 then j42 (1 : Int32) else j42 (0 : Int32))) else some ((0 : Int32), M7)))) (fun j44 => jn (fun (t45 : Mem) => j44 ((1 : Int32), t45)) (fun j46 => (if v3 = 0 then j46 M4 else cl (f_X12_isAction Z M4 p0 p2) (fun v47 M48 => (if v47 = 0 then j46 M48 else j44 ((0 : Int32), M48))))))) else some ((0 : Int32), M2)))
set_option maxRecDepth 100000 in
theorem l_X12_bestWeight_L72 {Γ : WC} {X : MX} (hN : HN Γ) (C : CX Γ X cX12_bestWeight 8 RX12 (some .int) (rmL 6 0 0)) {rM : Int32 × Mem} (E : EndN Γ X (some (.int rM.1)) rM.2 0 0) {Z : Nat} {p0 : Int32} {p1 : Int32} {p2 : Int32} {k : Int32 → Mem → Option (Int32 × Mem)} (hk : ∀ (a4 : Int32) (Mx : Mem), k a4 Mx = some rM → G Γ X Mx 0 0 [some (.ref (wad Γ 108)), none, none, none, some (.int a4)] [] 159) : ∀ (n : Nat) (x13 : Int32) (x14 : Int64) (x15 : Int32) (M16 : Mem), f_X12_bestWeight_L72 Z p0 p1 p2 k n x13 x14 x15 M16 = some rM → G Γ X M16 0 0 [some (.ref (wad Γ 108)), some (.int p0), some (.int p1), some (.int p2), some (.int x13), some (.long x14), none, some (.int x15)] [] 72 := by
  intro n
  induction n with
  | zero =>
    intro x13 x14 x15 M16 hf
    have hf0 : (none : Option _) = some rM := hf
    cases hf0
  | succ n ih =>
    intro x13 x14 x15 M16 hf
    rw [f_X12_bestWeight_L72] at hf
    refine x_iload C rfl (dkAt dk_X12_bestWeight 41 rfl) 74 rfl ?_
    refine x_bipush C (v := (10 : Int32)) (by decide) (dkAt dk_X12_bestWeight 42 rfl) 76 rfl ?_
    refine x_icmp_gt C 159 (dkAt dk_X12_bestWeight 43 rfl) 79 rfl (by decide) hf (fun hf => ?_) (fun hf => ?_)
    · exact G.weak (L := [some (.ref (wad Γ 108)), none, none, none, some (.int x13)]) ⟨rfl, rfl, trivial⟩ (hk _ _ hf)
    · refine x_aload_n C rfl rfl (dkAt dk_X12_bestWeight 44 rfl) 80 rfl ?_
      refine x_iload_n C rfl rfl (dkAt dk_X12_bestWeight 45 rfl) 81 rfl ?_
      refine x_iload_n C rfl rfl (dkAt dk_X12_bestWeight 46 rfl) 82 rfl ?_
      obtain ⟨v17, M18, h34, hf⟩ := cl_inv hf
      refine x_cVv C (c_X12_givesAll hN h34) mw_X12_givesAll ln_RX12_327 mi_X12_givesAll (hN.rc (ci := 12) sh108 rc12) (ro_of (by decide) (by decide) (by decide) (by decide)) rfl rfl (Nat.le_of_ble_eq_true rfl) (dkAt dk_X12_bestWeight 47 rfl) 85 rfl 0 0 rfl rfl ?_
      refine x_aload_n C rfl rfl (dkAt dk_X12_bestWeight 48 rfl) 86 rfl ?_
      refine x_getS C lk_RX12_7 (hN.sh sh108) (hN.sr sr108_2) (dkAt dk_X12_bestWeight 49 rfl) 89 rfl ?_
      refine x_iconst C (v := (4 : Int32)) (by decide) (dkAt dk_X12_bestWeight 50 rfl) 90 rfl ?_
      refine x_iconst C (v := (3 : Int32)) (by decide) (dkAt dk_X12_bestWeight 51 rfl) 91 rfl ?_
      refine x_iload_n C rfl rfl (dkAt dk_X12_bestWeight 52 rfl) 92 rfl ?_
      refine x_imul C (dkAt dk_X12_bestWeight 53 rfl) 93 rfl ?_
      refine x_iadd C (dkAt dk_X12_bestWeight 54 rfl) 94 rfl ?_
      refine x_iload_n C rfl rfl (dkAt dk_X12_bestWeight 55 rfl) 95 rfl ?_
      refine x_iadd C (dkAt dk_X12_bestWeight 56 rfl) 96 rfl ?_
      refine x_bipush C (v := (10 : Int32)) (by decide) (dkAt dk_X12_bestWeight 57 rfl) 98 rfl ?_
      refine x_iload C rfl (dkAt dk_X12_bestWeight 58 rfl) 100 rfl ?_
      refine x_isub C (dkAt dk_X12_bestWeight 59 rfl) 101 rfl ?_
      refine x_iast C (hN.sh sh109) (dkAt dk_X12_bestWeight 60 rfl) 102 rfl hf (fun M19 hf => ?_)
      refine x_aload_n C rfl rfl (dkAt dk_X12_bestWeight 61 rfl) 103 rfl ?_
      refine x_getS C lk_RX12_7 (hN.sh sh108) (hN.sr sr108_2) (dkAt dk_X12_bestWeight 62 rfl) 106 rfl ?_
      refine x_iconst C (v := (4 : Int32)) (by decide) (dkAt dk_X12_bestWeight 63 rfl) 107 rfl ?_
      refine x_iconst C (v := (3 : Int32)) (by decide) (dkAt dk_X12_bestWeight 64 rfl) 108 rfl ?_
      refine x_iload_n C rfl rfl (dkAt dk_X12_bestWeight 65 rfl) 109 rfl ?_
      refine x_imul C (dkAt dk_X12_bestWeight 66 rfl) 110 rfl ?_
      refine x_iadd C (dkAt dk_X12_bestWeight 67 rfl) 111 rfl ?_
      refine x_iload_n C rfl rfl (dkAt dk_X12_bestWeight 68 rfl) 112 rfl ?_
      refine x_iadd C (dkAt dk_X12_bestWeight 69 rfl) 113 rfl ?_
      refine x_iload C rfl (dkAt dk_X12_bestWeight 70 rfl) 115 rfl ?_
      refine x_iast C (hN.sh sh109) (dkAt dk_X12_bestWeight 71 rfl) 116 rfl hf (fun M20 hf => ?_)
      refine x_aload_n C rfl rfl (dkAt dk_X12_bestWeight 72 rfl) 117 rfl ?_
      obtain ⟨v21, M22, h33, hf⟩ := cl_inv hf
      refine x_cVi C (c_X12_brokenNow hN h33) mw_X12_brokenNow ln_RX12_293 mi_X12_brokenNow (hN.rc (ci := 12) sh108 rc12) (ro_of (by decide) (by decide) (by decide) (by decide)) rfl rfl (Nat.le_of_ble_eq_true rfl) (dkAt dk_X12_bestWeight 73 rfl) 120 rfl 0 0 rfl rfl ?_
      refine x_join hf (fun t23 => G Γ X t23.2.2 0 0 [some (.ref (wad Γ 108)), some (.int p0), some (.int p1), some (.int p2), some (.int t23.1), some (.long t23.2.1), none, some (.int x15)] [] 153) (fun t23 hf => ?_) (fun j24 hj24 hf => ?_)
      · refine x_iinc C (v := (x15 + (1 : Int32))) (L1 := [some (.ref (wad Γ 108)), some (.int p0), some (.int p1), some (.int p2), some (.int t23.1), some (.long t23.2.1), none, some (.int (x15 + (1 : Int32)))]) (dkAt dk_X12_bestWeight 90 rfl) 156 rfl rfl rfl (by decide) rfl ?_
        refine x_goto C 72 (dkAt dk_X12_bestWeight 91 rfl) (by decide) ?_
        exact G.weak (L := [some (.ref (wad Γ 108)), some (.int p0), some (.int p1), some (.int p2), some (.int t23.1), some (.long t23.2.1), none, some (.int (x15 + (1 : Int32)))]) ⟨rfl, rfl, rfl, rfl, rfl, rfl, rfl, trivial⟩ (ih _ _ _ _ hf)
      · refine x_if_ne C 153 (dkAt dk_X12_bestWeight 74 rfl) 123 rfl (by decide) hf (fun hf => ?_) (fun hf => ?_)
        · exact G.weak (L := [some (.ref (wad Γ 108)), some (.int p0), some (.int p1), some (.int p2), some (.int x13), some (.long x14), none, some (.int x15)]) ⟨rfl, rfl, rfl, rfl, rfl, rfl, rfl, trivial⟩ (hj24 _ hf)
        · refine x_iload C rfl (dkAt dk_X12_bestWeight 75 rfl) 125 rfl ?_
          refine x_join hf (fun t25 => G Γ X t25 0 0 [some (.ref (wad Γ 108)), some (.int p0), some (.int p1), some (.int p2), none, none, none, some (.int x15)] [] 142) (fun t25 hf => ?_) (fun j29 hj29 hf => ?_)
          · refine x_iload C rfl (dkAt dk_X12_bestWeight 84 rfl) 144 rfl ?_
            refine x_istore C (L1 := [some (.ref (wad Γ 108)), some (.int p0), some (.int p1), some (.int p2), some (.int x15), none, none, some (.int x15)]) (dkAt dk_X12_bestWeight 85 rfl) 146 rfl (by decide) rfl ?_
            refine x_aload_n C rfl rfl (dkAt dk_X12_bestWeight 86 rfl) 147 rfl ?_
            refine x_iconst C (v := (-1 : Int32)) (by decide) (dkAt dk_X12_bestWeight 87 rfl) 148 rfl ?_
            obtain ⟨v26, M27, h28, hf⟩ := cl_inv hf
            refine x_cVl C (c_X12_ofRun hN h28) mw_X12_ofRun ln_RX12_287 mi_X12_ofRun (hN.rc (ci := 12) sh108 rc12) (ro_of (by decide) (by decide) (by decide) (by decide)) rfl rfl (Nat.le_of_ble_eq_true rfl) (dkAt dk_X12_bestWeight 88 rfl) 151 rfl 0 0 rfl rfl ?_
            refine x_lstore C (L1 := [some (.ref (wad Γ 108)), some (.int p0), some (.int p1), some (.int p2), some (.int x15), some (.long v26), none, some (.int x15)]) (dkAt dk_X12_bestWeight 89 rfl) 153 rfl (by decide) rfl ?_
            exact G.weak (L := [some (.ref (wad Γ 108)), some (.int p0), some (.int p1), some (.int p2), some (.int x15), some (.long v26), none, some (.int x15)]) ⟨rfl, rfl, rfl, rfl, rfl, rfl, rfl, trivial⟩ (hj24 _ hf)
          · refine x_if_lt C 142 (dkAt dk_X12_bestWeight 76 rfl) 128 rfl (by decide) hf (fun hf => ?_) (fun hf => ?_)
            · exact G.weak (L := [some (.ref (wad Γ 108)), some (.int p0), some (.int p1), some (.int p2), none, none, none, some (.int x15)]) ⟨rfl, rfl, rfl, rfl, rfl, trivial⟩ (hj29 _ hf)
            · refine x_aload_n C rfl rfl (dkAt dk_X12_bestWeight 77 rfl) 129 rfl ?_
              refine x_iconst C (v := (-1 : Int32)) (by decide) (dkAt dk_X12_bestWeight 78 rfl) 130 rfl ?_
              obtain ⟨v30, M31, h32, hf⟩ := cl_inv hf
              refine x_cVl C (c_X12_ofRun hN h32) mw_X12_ofRun ln_RX12_287 mi_X12_ofRun (hN.rc (ci := 12) sh108 rc12) (ro_of (by decide) (by decide) (by decide) (by decide)) rfl rfl (Nat.le_of_ble_eq_true rfl) (dkAt dk_X12_bestWeight 79 rfl) 133 rfl 0 0 rfl rfl ?_
              refine x_lload C rfl (dkAt dk_X12_bestWeight 80 rfl) 135 rfl ?_
              refine x_lcmp_gt C 142 (dkAt dk_X12_bestWeight 81 rfl) 139 rfl (dkAt dk_X12_bestWeight 82 rfl) (by decide) hf (fun hf => ?_) (fun hf => ?_)
              · exact G.weak (L := [some (.ref (wad Γ 108)), some (.int p0), some (.int p1), some (.int p2), none, none, none, some (.int x15)]) ⟨rfl, rfl, rfl, rfl, rfl, trivial⟩ (hj29 _ hf)
              · refine x_goto C 153 (dkAt dk_X12_bestWeight 83 rfl) (by decide) ?_
                exact G.weak (L := [some (.ref (wad Γ 108)), some (.int p0), some (.int p1), some (.int p2), some (.int x13), some (.long x14), none, some (.int x15)]) ⟨rfl, rfl, rfl, rfl, rfl, rfl, rfl, trivial⟩ (hj24 _ hf)
set_option maxRecDepth 100000 in
theorem c_X12_bestWeight {Γ : WC} (hN : HN Γ) {Z : Nat} {M : Mem} {p0 : Int32} {p1 : Int32} {p2 : Int32} {rM : Int32 × Mem}  (hf : f_X12_bestWeight Z M p0 p1 p2 = some rM) : Ct Γ yX12_bestWeight cX12_bestWeight 8 (some .int) (rmL 6 0 0) [.ref (wad Γ 108), .int p0, .int p1, .int p2] M (some (.int rM.1)) rM.2 := by
  refine mkN hN.1 (own := RX12) rfl (by decide) (Nat.le_of_ble_eq_true rfl) (fun X C E => ?_)
  change G Γ X M 0 0 [some (.ref (wad Γ 108)), some (.int p0), some (.int p1), some (.int p2)] [] 0
  unfold f_X12_bestWeight at hf
  refine x_aload_n C rfl rfl (dkAt dk_X12_bestWeight 0 rfl) 1 rfl ?_
  obtain ⟨v1, M2, h51, hf⟩ := cl_inv hf
  refine x_cVi C (c_X12_noChain hN h51) mw_X12_noChain ln_RX12_222 mi_X12_noChain (hN.rc (ci := 12) sh108 rc12) (ro_of (by decide) (by decide) (by decide) (by decide)) rfl rfl (Nat.le_of_ble_eq_true rfl) (dkAt dk_X12_bestWeight 1 rfl) 4 rfl 0 0 rfl rfl ?_
  refine x_if_ne C 56 (dkAt dk_X12_bestWeight 2 rfl) 7 rfl (by decide) hf (fun hf => ?_) (fun hf => ?_)
  · refine x_iconst C (v := (0 : Int32)) (by decide) (dkAt dk_X12_bestWeight 30 rfl) 57 rfl ?_
    exact x_iret C E hf (by decide) (by decide) (dkAt dk_X12_bestWeight 31 rfl)
  · refine x_aload_n C rfl rfl (dkAt dk_X12_bestWeight 3 rfl) 8 rfl ?_
    refine x_aload_n C rfl rfl (dkAt dk_X12_bestWeight 4 rfl) 9 rfl ?_
    refine x_iload_n C rfl rfl (dkAt dk_X12_bestWeight 5 rfl) 10 rfl ?_
    refine x_iload_n C rfl rfl (dkAt dk_X12_bestWeight 6 rfl) 11 rfl ?_
    obtain ⟨v3, M4, h50, hf⟩ := cl_inv hf
    refine x_cVi C (c_X12_isAction hN h50) mw_X12_isAction ln_RX12_226 mi_X12_isAction (hN.rc (ci := 12) sh108 rc12) (ro_of (by decide) (by decide) (by decide) (by decide)) rfl rfl (Nat.le_of_ble_eq_true rfl) (dkAt dk_X12_bestWeight 7 rfl) 14 rfl 0 0 rfl rfl ?_
    refine x_join hf (fun t5 => G Γ X t5.2 0 0 [some (.ref (wad Γ 108)), some (.int p0), some (.int p1), some (.int p2)] [.int t5.1, .ref (wad Γ 108)] 31) (fun t5 hf => ?_) (fun j44 hj44 hf => ?_)
    · refine x_iconst C (v := (2 : Int32)) (by decide) (dkAt dk_X12_bestWeight 17 rfl) 32 rfl ?_
      obtain ⟨v6, M7, h43, hf⟩ := cl_inv hf
      refine x_cVi C (c_X12_refuse hN h43) mw_X12_refuse ln_RX12_68 mi_X12_refuse (hN.rc (ci := 12) sh108 rc12) (ro_of (by decide) (by decide) (by decide) (by decide)) rfl rfl (Nat.le_of_ble_eq_true rfl) (dkAt dk_X12_bestWeight 18 rfl) 35 rfl 0 0 rfl rfl ?_
      refine x_if_ne C 56 (dkAt dk_X12_bestWeight 19 rfl) 38 rfl (by decide) hf (fun hf => ?_) (fun hf => ?_)
      · refine x_iconst C (v := (0 : Int32)) (by decide) (dkAt dk_X12_bestWeight 30 rfl) 57 rfl ?_
        exact x_iret C E hf (by decide) (by decide) (dkAt dk_X12_bestWeight 31 rfl)
      · refine x_aload_n C rfl rfl (dkAt dk_X12_bestWeight 20 rfl) 39 rfl ?_
        refine x_iload_n C rfl rfl (dkAt dk_X12_bestWeight 21 rfl) 40 rfl ?_
        refine x_iload_n C rfl rfl (dkAt dk_X12_bestWeight 22 rfl) 41 rfl ?_
        refine x_join hf (fun t8 => G Γ X M7 0 0 [some (.ref (wad Γ 108)), some (.int p0), some (.int p1), some (.int p2)] [.int t8, .ref (wad Γ 108)] 49) (fun t8 hf => ?_) (fun j42 hj42 hf => ?_)
        · refine x_iconst C (v := (3 : Int32)) (by decide) (dkAt dk_X12_bestWeight 27 rfl) 50 rfl ?_
          obtain ⟨v9, M10, h41, hf⟩ := cl_inv hf
          refine x_cVi C (c_X12_refuse hN h41) mw_X12_refuse ln_RX12_68 mi_X12_refuse (hN.rc (ci := 12) sh108 rc12) (ro_of (by decide) (by decide) (by decide) (by decide)) rfl rfl (Nat.le_of_ble_eq_true rfl) (dkAt dk_X12_bestWeight 28 rfl) 53 rfl 0 0 rfl rfl ?_
          refine x_if_eq C 58 (dkAt dk_X12_bestWeight 29 rfl) 56 rfl (by decide) hf (fun hf => ?_) (fun hf => ?_)
          · refine x_aload_n C rfl rfl (dkAt dk_X12_bestWeight 32 rfl) 59 rfl ?_
            refine x_iconst C (v := (0 : Int32)) (by decide) (dkAt dk_X12_bestWeight 33 rfl) 60 rfl ?_
            obtain ⟨v11, M12, h40, hf⟩ := cl_inv hf
            refine x_cVv C (c_X12_keeps hN h40) mw_X12_keeps ln_RX12_324 mi_X12_keeps (hN.rc (ci := 12) sh108 rc12) (ro_of (by decide) (by decide) (by decide) (by decide)) rfl rfl (Nat.le_of_ble_eq_true rfl) (dkAt dk_X12_bestWeight 34 rfl) 63 rfl 0 0 rfl rfl ?_
            refine x_iconst C (v := (-1 : Int32)) (by decide) (dkAt dk_X12_bestWeight 35 rfl) 64 rfl ?_
            refine x_istore C (L1 := [some (.ref (wad Γ 108)), some (.int p0), some (.int p1), some (.int p2), some (.int (-1 : Int32))]) (dkAt dk_X12_bestWeight 36 rfl) 66 rfl (by decide) rfl ?_
            refine x_lconst C (v := (0 : Int64)) (by decide) (dkAt dk_X12_bestWeight 37 rfl) 67 rfl ?_
            refine x_lstore C (L1 := [some (.ref (wad Γ 108)), some (.int p0), some (.int p1), some (.int p2), some (.int (-1 : Int32)), some (.long (0 : Int64))]) (dkAt dk_X12_bestWeight 38 rfl) 69 rfl (by decide) rfl ?_
            refine x_iconst C (v := (0 : Int32)) (by decide) (dkAt dk_X12_bestWeight 39 rfl) 70 rfl ?_
            refine x_istore C (L1 := [some (.ref (wad Γ 108)), some (.int p0), some (.int p1), some (.int p2), some (.int (-1 : Int32)), some (.long (0 : Int64)), none, some (.int (0 : Int32))]) (dkAt dk_X12_bestWeight 40 rfl) 72 rfl (by decide) rfl ?_
            refine G.weak (L := [some (.ref (wad Γ 108)), some (.int p0), some (.int p1), some (.int p2), some (.int (-1 : Int32)), some (.long (0 : Int64)), none, some (.int (0 : Int32))]) ⟨rfl, rfl, rfl, rfl, rfl, rfl, rfl, trivial⟩ ?_
            refine l_X12_bestWeight_L72 hN C E ?_ Z _ _ _ _ hf
            intro y35 M36 hf
            refine x_aload_n C rfl rfl (dkAt dk_X12_bestWeight 92 rfl) 160 rfl ?_
            refine x_iconst C (v := (0 : Int32)) (by decide) (dkAt dk_X12_bestWeight 93 rfl) 161 rfl ?_
            obtain ⟨v37, M38, h39, hf⟩ := cl_inv hf
            refine x_cVv C (c_X12_fetches hN h39) mw_X12_fetches ln_RX12_355 mi_X12_fetches (hN.rc (ci := 12) sh108 rc12) (ro_of (by decide) (by decide) (by decide) (by decide)) rfl rfl (Nat.le_of_ble_eq_true rfl) (dkAt dk_X12_bestWeight 94 rfl) 164 rfl 0 0 rfl rfl ?_
            refine x_iload C rfl (dkAt dk_X12_bestWeight 95 rfl) 166 rfl ?_
            exact x_iret C E hf (by decide) (by decide) (dkAt dk_X12_bestWeight 96 rfl)
          · refine x_iconst C (v := (0 : Int32)) (by decide) (dkAt dk_X12_bestWeight 30 rfl) 57 rfl ?_
            exact x_iret C E hf (by decide) (by decide) (dkAt dk_X12_bestWeight 31 rfl)
        · refine x_icmp_ne C 48 (dkAt dk_X12_bestWeight 23 rfl) 44 rfl (by decide) hf (fun hf => ?_) (fun hf => ?_)
          · refine x_iconst C (v := (0 : Int32)) (by decide) (dkAt dk_X12_bestWeight 26 rfl) 49 rfl ?_
            exact G.weak (L := [some (.ref (wad Γ 108)), some (.int p0), some (.int p1), some (.int p2)]) ⟨rfl, rfl, rfl, rfl, trivial⟩ (hj42 _ hf)
          · refine x_iconst C (v := (1 : Int32)) (by decide) (dkAt dk_X12_bestWeight 24 rfl) 45 rfl ?_
            refine x_goto C 49 (dkAt dk_X12_bestWeight 25 rfl) (by decide) ?_
            exact G.weak (L := [some (.ref (wad Γ 108)), some (.int p0), some (.int p1), some (.int p2)]) ⟨rfl, rfl, rfl, rfl, trivial⟩ (hj42 _ hf)
    · refine x_join hf (fun t45 => G Γ X t45 0 0 [some (.ref (wad Γ 108)), some (.int p0), some (.int p1), some (.int p2)] [.ref (wad Γ 108)] 26) (fun t45 hf => ?_) (fun j46 hj46 hf => ?_)
      · refine x_iconst C (v := (1 : Int32)) (by decide) (dkAt dk_X12_bestWeight 14 rfl) 27 rfl ?_
        refine x_goto C 31 (dkAt dk_X12_bestWeight 15 rfl) (by decide) ?_
        exact G.weak (L := [some (.ref (wad Γ 108)), some (.int p0), some (.int p1), some (.int p2)]) ⟨rfl, rfl, rfl, rfl, trivial⟩ (hj44 _ hf)
      · refine x_if_eq C 26 (dkAt dk_X12_bestWeight 8 rfl) 17 rfl (by decide) hf (fun hf => ?_) (fun hf => ?_)
        · exact G.weak (L := [some (.ref (wad Γ 108)), some (.int p0), some (.int p1), some (.int p2)]) ⟨rfl, rfl, rfl, rfl, trivial⟩ (hj46 _ hf)
        · refine x_aload_n C rfl rfl (dkAt dk_X12_bestWeight 9 rfl) 18 rfl ?_
          refine x_iload_n C rfl rfl (dkAt dk_X12_bestWeight 10 rfl) 19 rfl ?_
          refine x_iload_n C rfl rfl (dkAt dk_X12_bestWeight 11 rfl) 20 rfl ?_
          obtain ⟨v47, M48, h49, hf⟩ := cl_inv hf
          refine x_cVi C (c_X12_isAction hN h49) mw_X12_isAction ln_RX12_226 mi_X12_isAction (hN.rc (ci := 12) sh108 rc12) (ro_of (by decide) (by decide) (by decide) (by decide)) rfl rfl (Nat.le_of_ble_eq_true rfl) (dkAt dk_X12_bestWeight 12 rfl) 23 rfl 0 0 rfl rfl ?_
          refine x_if_ne C 30 (dkAt dk_X12_bestWeight 13 rfl) 26 rfl (by decide) hf (fun hf => ?_) (fun hf => ?_)
          · refine x_iconst C (v := (0 : Int32)) (by decide) (dkAt dk_X12_bestWeight 16 rfl) 31 rfl ?_
            exact G.weak (L := [some (.ref (wad Γ 108)), some (.int p0), some (.int p1), some (.int p2)]) ⟨rfl, rfl, rfl, rfl, trivial⟩ (hj44 _ hf)
          · exact G.weak (L := [some (.ref (wad Γ 108)), some (.int p0), some (.int p1), some (.int p2)]) ⟨rfl, rfl, rfl, rfl, trivial⟩ (hj46 _ hf)
def f_X12_draws (Z : Nat) (M : Mem) (p0 : Int32) : Option (Int32 × Mem) :=
  rdI M 109 54 (2 : Int32) (fun v1 => nzI (30011 : Int32) (wrI M 109 54 (2 : Int32) (((v1 * (109 : Int32)) + (1021 : Int32)) - ((v1 * (109 : Int32)) + (1021 : Int32)) / (30011 : Int32) * (30011 : Int32)) (fun M2 => rdI M2 109 54 (2 : Int32) (fun v3 => nzI p0 (some ((v3 - v3 / p0 * p0), M2))))))
set_option maxRecDepth 100000 in
theorem c_X12_draws {Γ : WC} (hN : HN Γ) {Z : Nat} {M : Mem} {p0 : Int32} {rM : Int32 × Mem}  (hf : f_X12_draws Z M p0 = some rM) : Ct Γ yX12_draws cX12_draws 2 (some .int) (rmL 0 0 0) [.ref (wad Γ 108), .int p0] M (some (.int rM.1)) rM.2 := by
  refine mkN hN.1 (own := RX12) rfl (by decide) (Nat.le_of_ble_eq_true rfl) (fun X C E => ?_)
  change G Γ X M 0 0 [some (.ref (wad Γ 108)), some (.int p0)] [] 0
  unfold f_X12_draws at hf
  refine x_aload_n C rfl rfl (dkAt dk_X12_draws 0 rfl) 1 rfl ?_
  refine x_getS C lk_RX12_7 (hN.sh sh108) (hN.sr sr108_2) (dkAt dk_X12_draws 1 rfl) 4 rfl ?_
  refine x_iconst C (v := (2 : Int32)) (by decide) (dkAt dk_X12_draws 2 rfl) 5 rfl ?_
  refine x_aload_n C rfl rfl (dkAt dk_X12_draws 3 rfl) 6 rfl ?_
  refine x_getS C lk_RX12_7 (hN.sh sh108) (hN.sr sr108_2) (dkAt dk_X12_draws 4 rfl) 9 rfl ?_
  refine x_iconst C (v := (2 : Int32)) (by decide) (dkAt dk_X12_draws 5 rfl) 10 rfl ?_
  refine x_iald C (hN.sh sh109) (dkAt dk_X12_draws 6 rfl) 11 rfl hf (fun v1 hf => ?_)
  refine x_bipush C (v := (109 : Int32)) (by decide) (dkAt dk_X12_draws 7 rfl) 13 rfl ?_
  refine x_imul C (dkAt dk_X12_draws 8 rfl) 14 rfl ?_
  refine x_sipush C (v := (1021 : Int32)) (by decide) (dkAt dk_X12_draws 9 rfl) 17 rfl ?_
  refine x_iadd C (dkAt dk_X12_draws 10 rfl) 18 rfl ?_
  refine x_sipush C (v := (30011 : Int32)) (by decide) (dkAt dk_X12_draws 11 rfl) 21 rfl ?_
  refine x_irem C (dkAt dk_X12_draws 12 rfl) 22 rfl hf (fun hf => ?_)
  refine x_iast C (hN.sh sh109) (dkAt dk_X12_draws 13 rfl) 23 rfl hf (fun M2 hf => ?_)
  refine x_aload_n C rfl rfl (dkAt dk_X12_draws 14 rfl) 24 rfl ?_
  refine x_getS C lk_RX12_7 (hN.sh sh108) (hN.sr sr108_2) (dkAt dk_X12_draws 15 rfl) 27 rfl ?_
  refine x_iconst C (v := (2 : Int32)) (by decide) (dkAt dk_X12_draws 16 rfl) 28 rfl ?_
  refine x_iald C (hN.sh sh109) (dkAt dk_X12_draws 17 rfl) 29 rfl hf (fun v3 hf => ?_)
  refine x_iload_n C rfl rfl (dkAt dk_X12_draws 18 rfl) 30 rfl ?_
  refine x_irem C (dkAt dk_X12_draws 19 rfl) 31 rfl hf (fun hf => ?_)
  exact x_iret C E hf (by decide) (by decide) (dkAt dk_X12_draws 20 rfl)
def f_X12_drawsAction_L17 (Z : Nat) (p0 : Int32) (v1 : Int32) : Nat → Int32 → Int32 → Mem → Option (Int32 × Mem)
  | 0, _, _, _ => none
  | n + 1, x5, x6, M7 => (if v1 < x6 then some (x5, M7) else cl (f_X12_weightOf Z M7 p0 (x5 + (1 : Int32))) (fun v8 M9 => f_X12_drawsAction_L17 Z p0 v1 n (x5 + (1 : Int32)) (x6 + v8) M9))
def f_X12_drawsAction (Z : Nat) (M : Mem) (p0 : Int32) : Option (Int32 × Mem) :=
  cl (f_X12_draws Z M (10 : Int32)) (fun v1 M2 => cl (f_X12_weightOf Z M2 p0 (0 : Int32)) (fun v3 M4 => f_X12_drawsAction_L17 Z p0 v1 Z (0 : Int32) v3 M4))
set_option maxRecDepth 100000 in
theorem l_X12_drawsAction_L17 {Γ : WC} {X : MX} (hN : HN Γ) (C : CX Γ X cX12_drawsAction 5 RX12 (some .int) (rmL 1 0 0)) {rM : Int32 × Mem} (E : EndN Γ X (some (.int rM.1)) rM.2 0 0) {Z : Nat} {p0 : Int32} {v1 : Int32} : ∀ (n : Nat) (x5 : Int32) (x6 : Int32) (M7 : Mem), f_X12_drawsAction_L17 Z p0 v1 n x5 x6 M7 = some rM → G Γ X M7 0 0 [some (.ref (wad Γ 108)), some (.int p0), some (.int v1), some (.int x5), some (.int x6)] [] 17 := by
  intro n
  induction n with
  | zero =>
    intro x5 x6 M7 hf
    have hf0 : (none : Option _) = some rM := hf
    cases hf0
  | succ n ih =>
    intro x5 x6 M7 hf
    rw [f_X12_drawsAction_L17] at hf
    refine x_iload C rfl (dkAt dk_X12_drawsAction 11 rfl) 19 rfl ?_
    refine x_iload_n C rfl rfl (dkAt dk_X12_drawsAction 12 rfl) 20 rfl ?_
    refine x_icmp_gt C 40 (dkAt dk_X12_drawsAction 13 rfl) 23 rfl (by decide) hf (fun hf => ?_) (fun hf => ?_)
    · refine x_iload_n C rfl rfl (dkAt dk_X12_drawsAction 23 rfl) 41 rfl ?_
      exact x_iret C E hf (by decide) (by decide) (dkAt dk_X12_drawsAction 24 rfl)
    · refine x_iinc C (v := (x5 + (1 : Int32))) (L1 := [some (.ref (wad Γ 108)), some (.int p0), some (.int v1), some (.int (x5 + (1 : Int32))), some (.int x6)]) (dkAt dk_X12_drawsAction 14 rfl) 26 rfl rfl rfl (by decide) rfl ?_
      refine x_iload C rfl (dkAt dk_X12_drawsAction 15 rfl) 28 rfl ?_
      refine x_aload_n C rfl rfl (dkAt dk_X12_drawsAction 16 rfl) 29 rfl ?_
      refine x_iload_n C rfl rfl (dkAt dk_X12_drawsAction 17 rfl) 30 rfl ?_
      refine x_iload_n C rfl rfl (dkAt dk_X12_drawsAction 18 rfl) 31 rfl ?_
      obtain ⟨v8, M9, h10, hf⟩ := cl_inv hf
      refine x_cVi C (c_X12_weightOf hN h10) mw_X12_weightOf ln_RX12_252 mi_X12_weightOf (hN.rc (ci := 12) sh108 rc12) (ro_of (by decide) (by decide) (by decide) (by decide)) rfl rfl (Nat.le_of_ble_eq_true rfl) (dkAt dk_X12_drawsAction 19 rfl) 34 rfl 0 0 rfl rfl ?_
      refine x_iadd C (dkAt dk_X12_drawsAction 20 rfl) 35 rfl ?_
      refine x_istore C (L1 := [some (.ref (wad Γ 108)), some (.int p0), some (.int v1), some (.int (x5 + (1 : Int32))), some (.int (x6 + v8))]) (dkAt dk_X12_drawsAction 21 rfl) 37 rfl (by decide) rfl ?_
      refine x_goto C 17 (dkAt dk_X12_drawsAction 22 rfl) (by decide) ?_
      exact G.weak (L := [some (.ref (wad Γ 108)), some (.int p0), some (.int v1), some (.int (x5 + (1 : Int32))), some (.int (x6 + v8))]) ⟨rfl, rfl, rfl, rfl, rfl, trivial⟩ (ih _ _ _ hf)
set_option maxRecDepth 100000 in
theorem c_X12_drawsAction {Γ : WC} (hN : HN Γ) {Z : Nat} {M : Mem} {p0 : Int32} {rM : Int32 × Mem}  (hf : f_X12_drawsAction Z M p0 = some rM) : Ct Γ yX12_drawsAction cX12_drawsAction 5 (some .int) (rmL 1 0 0) [.ref (wad Γ 108), .int p0] M (some (.int rM.1)) rM.2 := by
  refine mkN hN.1 (own := RX12) rfl (by decide) (Nat.le_of_ble_eq_true rfl) (fun X C E => ?_)
  change G Γ X M 0 0 [some (.ref (wad Γ 108)), some (.int p0)] [] 0
  unfold f_X12_drawsAction at hf
  refine x_aload_n C rfl rfl (dkAt dk_X12_drawsAction 0 rfl) 1 rfl ?_
  refine x_bipush C (v := (10 : Int32)) (by decide) (dkAt dk_X12_drawsAction 1 rfl) 3 rfl ?_
  obtain ⟨v1, M2, h12, hf⟩ := cl_inv hf
  refine x_cVi C (c_X12_draws hN h12) mw_X12_draws ln_RX12_365 mi_X12_draws (hN.rc (ci := 12) sh108 rc12) (ro_of (by decide) (by decide) (by decide) (by decide)) rfl rfl (Nat.le_of_ble_eq_true rfl) (dkAt dk_X12_drawsAction 2 rfl) 6 rfl 0 0 rfl rfl ?_
  refine x_istore_n C (L1 := [some (.ref (wad Γ 108)), some (.int p0), some (.int v1)]) (dkAt dk_X12_drawsAction 3 rfl) 7 rfl rfl (by decide) rfl ?_
  refine x_iconst C (v := (0 : Int32)) (by decide) (dkAt dk_X12_drawsAction 4 rfl) 8 rfl ?_
  refine x_istore_n C (L1 := [some (.ref (wad Γ 108)), some (.int p0), some (.int v1), some (.int (0 : Int32))]) (dkAt dk_X12_drawsAction 5 rfl) 9 rfl rfl (by decide) rfl ?_
  refine x_aload_n C rfl rfl (dkAt dk_X12_drawsAction 6 rfl) 10 rfl ?_
  refine x_iload_n C rfl rfl (dkAt dk_X12_drawsAction 7 rfl) 11 rfl ?_
  refine x_iconst C (v := (0 : Int32)) (by decide) (dkAt dk_X12_drawsAction 8 rfl) 12 rfl ?_
  obtain ⟨v3, M4, h11, hf⟩ := cl_inv hf
  refine x_cVi C (c_X12_weightOf hN h11) mw_X12_weightOf ln_RX12_252 mi_X12_weightOf (hN.rc (ci := 12) sh108 rc12) (ro_of (by decide) (by decide) (by decide) (by decide)) rfl rfl (Nat.le_of_ble_eq_true rfl) (dkAt dk_X12_drawsAction 9 rfl) 15 rfl 0 0 rfl rfl ?_
  refine x_istore C (L1 := [some (.ref (wad Γ 108)), some (.int p0), some (.int v1), some (.int (0 : Int32)), some (.int v3)]) (dkAt dk_X12_drawsAction 10 rfl) 17 rfl (by decide) rfl ?_
  refine G.weak (L := [some (.ref (wad Γ 108)), some (.int p0), some (.int v1), some (.int (0 : Int32)), some (.int v3)]) ⟨rfl, rfl, rfl, rfl, rfl, trivial⟩ ?_
  refine l_X12_drawsAction_L17 hN C E Z _ _ _ hf
def f_X12_drawsState_L36 (Z : Nat) (p0 : Int32) (p1 : Int32) (v1 : Int32) : Nat → Int32 → Int32 → Mem → Option (Int32 × Mem)
  | 0, _, _, _ => none
  | n + 1, x6, x7, M8 => (if v1 < x7 then rdI M8 112 344 x6 (fun v9 => some (v9, M8)) else rdI M8 112 344 (x6 + (1 : Int32)) (fun v10 => cl (f_X12_percentBy Z M8 p0 p1 v10) (fun v11 M12 => f_X12_drawsState_L36 Z p0 p1 v1 n (x6 + (1 : Int32)) (x7 + v11) M12)))
def f_X12_drawsState (Z : Nat) (M : Mem) (p0 : Int32) (p1 : Int32) : Option (Int32 × Mem) :=
  cl (f_X12_draws Z M (100 : Int32)) (fun v1 M2 => rdI M2 112 344 ((212 : Int32) + ((6 : Int32) * (((3 : Int32) * p0) + p1))) (fun v3 => cl (f_X12_percentBy Z M2 p0 p1 v3) (fun v4 M5 => f_X12_drawsState_L36 Z p0 p1 v1 Z ((212 : Int32) + ((6 : Int32) * (((3 : Int32) * p0) + p1))) v4 M5)))
set_option maxRecDepth 100000 in
theorem l_X12_drawsState_L36 {Γ : WC} {X : MX} (hN : HN Γ) (C : CX Γ X cX12_drawsState 6 RX12 (some .int) (rmL 1 0 0)) {rM : Int32 × Mem} (E : EndN Γ X (some (.int rM.1)) rM.2 0 0) {Z : Nat} {p0 : Int32} {p1 : Int32} {v1 : Int32} : ∀ (n : Nat) (x6 : Int32) (x7 : Int32) (M8 : Mem), f_X12_drawsState_L36 Z p0 p1 v1 n x6 x7 M8 = some rM → G Γ X M8 0 0 [some (.ref (wad Γ 108)), some (.int p0), some (.int p1), some (.int v1), some (.int x6), some (.int x7)] [] 36 := by
  intro n
  induction n with
  | zero =>
    intro x6 x7 M8 hf
    have hf0 : (none : Option _) = some rM := hf
    cases hf0
  | succ n ih =>
    intro x6 x7 M8 hf
    rw [f_X12_drawsState_L36] at hf
    refine x_iload C rfl (dkAt dk_X12_drawsState 23 rfl) 38 rfl ?_
    refine x_iload_n C rfl rfl (dkAt dk_X12_drawsState 24 rfl) 39 rfl ?_
    refine x_icmp_gt C 66 (dkAt dk_X12_drawsState 25 rfl) 42 rfl (by decide) hf (fun hf => ?_) (fun hf => ?_)
    · refine x_aload_n C rfl rfl (dkAt dk_X12_drawsState 39 rfl) 67 rfl ?_
      refine x_getS C lk_RX12_20 (hN.sh sh108) (hN.sr sr108_6) (dkAt dk_X12_drawsState 40 rfl) 70 rfl ?_
      refine x_iload C rfl (dkAt dk_X12_drawsState 41 rfl) 72 rfl ?_
      refine x_iald C (hN.sh sh112) (dkAt dk_X12_drawsState 42 rfl) 73 rfl hf (fun v9 hf => ?_)
      exact x_iret C E hf (by decide) (by decide) (dkAt dk_X12_drawsState 43 rfl)
    · refine x_iinc C (v := (x6 + (1 : Int32))) (L1 := [some (.ref (wad Γ 108)), some (.int p0), some (.int p1), some (.int v1), some (.int (x6 + (1 : Int32))), some (.int x7)]) (dkAt dk_X12_drawsState 26 rfl) 45 rfl rfl rfl (by decide) rfl ?_
      refine x_iload C rfl (dkAt dk_X12_drawsState 27 rfl) 47 rfl ?_
      refine x_aload_n C rfl rfl (dkAt dk_X12_drawsState 28 rfl) 48 rfl ?_
      refine x_iload_n C rfl rfl (dkAt dk_X12_drawsState 29 rfl) 49 rfl ?_
      refine x_iload_n C rfl rfl (dkAt dk_X12_drawsState 30 rfl) 50 rfl ?_
      refine x_aload_n C rfl rfl (dkAt dk_X12_drawsState 31 rfl) 51 rfl ?_
      refine x_getS C lk_RX12_20 (hN.sh sh108) (hN.sr sr108_6) (dkAt dk_X12_drawsState 32 rfl) 54 rfl ?_
      refine x_iload C rfl (dkAt dk_X12_drawsState 33 rfl) 56 rfl ?_
      refine x_iald C (hN.sh sh112) (dkAt dk_X12_drawsState 34 rfl) 57 rfl hf (fun v10 hf => ?_)
      obtain ⟨v11, M12, h13, hf⟩ := cl_inv hf
      refine x_cVi C (c_X12_percentBy hN h13) mw_X12_percentBy ln_RX12_249 mi_X12_percentBy (hN.rc (ci := 12) sh108 rc12) (ro_of (by decide) (by decide) (by decide) (by decide)) rfl rfl (Nat.le_of_ble_eq_true rfl) (dkAt dk_X12_drawsState 35 rfl) 60 rfl 0 0 rfl rfl ?_
      refine x_iadd C (dkAt dk_X12_drawsState 36 rfl) 61 rfl ?_
      refine x_istore C (L1 := [some (.ref (wad Γ 108)), some (.int p0), some (.int p1), some (.int v1), some (.int (x6 + (1 : Int32))), some (.int (x7 + v11))]) (dkAt dk_X12_drawsState 37 rfl) 63 rfl (by decide) rfl ?_
      refine x_goto C 36 (dkAt dk_X12_drawsState 38 rfl) (by decide) ?_
      exact G.weak (L := [some (.ref (wad Γ 108)), some (.int p0), some (.int p1), some (.int v1), some (.int (x6 + (1 : Int32))), some (.int (x7 + v11))]) ⟨rfl, rfl, rfl, rfl, rfl, rfl, trivial⟩ (ih _ _ _ hf)
set_option maxRecDepth 100000 in
theorem c_X12_drawsState {Γ : WC} (hN : HN Γ) {Z : Nat} {M : Mem} {p0 : Int32} {p1 : Int32} {rM : Int32 × Mem}  (hf : f_X12_drawsState Z M p0 p1 = some rM) : Ct Γ yX12_drawsState cX12_drawsState 6 (some .int) (rmL 1 0 0) [.ref (wad Γ 108), .int p0, .int p1] M (some (.int rM.1)) rM.2 := by
  refine mkN hN.1 (own := RX12) rfl (by decide) (Nat.le_of_ble_eq_true rfl) (fun X C E => ?_)
  change G Γ X M 0 0 [some (.ref (wad Γ 108)), some (.int p0), some (.int p1)] [] 0
  unfold f_X12_drawsState at hf
  refine x_aload_n C rfl rfl (dkAt dk_X12_drawsState 0 rfl) 1 rfl ?_
  refine x_bipush C (v := (100 : Int32)) (by decide) (dkAt dk_X12_drawsState 1 rfl) 3 rfl ?_
  obtain ⟨v1, M2, h15, hf⟩ := cl_inv hf
  refine x_cVi C (c_X12_draws hN h15) mw_X12_draws ln_RX12_365 mi_X12_draws (hN.rc (ci := 12) sh108 rc12) (ro_of (by decide) (by decide) (by decide) (by decide)) rfl rfl (Nat.le_of_ble_eq_true rfl) (dkAt dk_X12_drawsState 2 rfl) 6 rfl 0 0 rfl rfl ?_
  refine x_istore_n C (L1 := [some (.ref (wad Γ 108)), some (.int p0), some (.int p1), some (.int v1)]) (dkAt dk_X12_drawsState 3 rfl) 7 rfl rfl (by decide) rfl ?_
  refine x_sipush C (v := (212 : Int32)) (by decide) (dkAt dk_X12_drawsState 4 rfl) 10 rfl ?_
  refine x_bipush C (v := (6 : Int32)) (by decide) (dkAt dk_X12_drawsState 5 rfl) 12 rfl ?_
  refine x_iconst C (v := (3 : Int32)) (by decide) (dkAt dk_X12_drawsState 6 rfl) 13 rfl ?_
  refine x_iload_n C rfl rfl (dkAt dk_X12_drawsState 7 rfl) 14 rfl ?_
  refine x_imul C (dkAt dk_X12_drawsState 8 rfl) 15 rfl ?_
  refine x_iload_n C rfl rfl (dkAt dk_X12_drawsState 9 rfl) 16 rfl ?_
  refine x_iadd C (dkAt dk_X12_drawsState 10 rfl) 17 rfl ?_
  refine x_imul C (dkAt dk_X12_drawsState 11 rfl) 18 rfl ?_
  refine x_iadd C (dkAt dk_X12_drawsState 12 rfl) 19 rfl ?_
  refine x_istore C (L1 := [some (.ref (wad Γ 108)), some (.int p0), some (.int p1), some (.int v1), some (.int ((212 : Int32) + ((6 : Int32) * (((3 : Int32) * p0) + p1))))]) (dkAt dk_X12_drawsState 13 rfl) 21 rfl (by decide) rfl ?_
  refine x_aload_n C rfl rfl (dkAt dk_X12_drawsState 14 rfl) 22 rfl ?_
  refine x_iload_n C rfl rfl (dkAt dk_X12_drawsState 15 rfl) 23 rfl ?_
  refine x_iload_n C rfl rfl (dkAt dk_X12_drawsState 16 rfl) 24 rfl ?_
  refine x_aload_n C rfl rfl (dkAt dk_X12_drawsState 17 rfl) 25 rfl ?_
  refine x_getS C lk_RX12_20 (hN.sh sh108) (hN.sr sr108_6) (dkAt dk_X12_drawsState 18 rfl) 28 rfl ?_
  refine x_iload C rfl (dkAt dk_X12_drawsState 19 rfl) 30 rfl ?_
  refine x_iald C (hN.sh sh112) (dkAt dk_X12_drawsState 20 rfl) 31 rfl hf (fun v3 hf => ?_)
  obtain ⟨v4, M5, h14, hf⟩ := cl_inv hf
  refine x_cVi C (c_X12_percentBy hN h14) mw_X12_percentBy ln_RX12_249 mi_X12_percentBy (hN.rc (ci := 12) sh108 rc12) (ro_of (by decide) (by decide) (by decide) (by decide)) rfl rfl (Nat.le_of_ble_eq_true rfl) (dkAt dk_X12_drawsState 21 rfl) 34 rfl 0 0 rfl rfl ?_
  refine x_istore C (L1 := [some (.ref (wad Γ 108)), some (.int p0), some (.int p1), some (.int v1), some (.int ((212 : Int32) + ((6 : Int32) * (((3 : Int32) * p0) + p1)))), some (.int v4)]) (dkAt dk_X12_drawsState 22 rfl) 36 rfl (by decide) rfl ?_
  refine G.weak (L := [some (.ref (wad Γ 108)), some (.int p0), some (.int p1), some (.int v1), some (.int ((212 : Int32) + ((6 : Int32) * (((3 : Int32) * p0) + p1)))), some (.int v4)]) ⟨rfl, rfl, rfl, rfl, rfl, rfl, trivial⟩ ?_
  refine l_X12_drawsState_L36 hN C E Z _ _ _ hf
def f_X12_walks_L27 (Z : Nat) : Nat → Int32 → Mem → Option (Unit × Mem)
  | 0, _, _ => none
  | n + 1, x5, M6 => rdI M6 109 54 (1 : Int32) (fun v7 => (if v7 ≤ x5 then some ((), M6) else rdI M6 109 54 ((43 : Int32) + x5) (fun v8 => cl (f_X12_drawsAction Z M6 v8) (fun v9 M10 => wrI M10 109 54 ((49 : Int32) + x5) v9 (fun M11 => rdI M11 109 54 ((43 : Int32) + x5) (fun v12 => rdI M11 109 54 ((49 : Int32) + x5) (fun v13 => cl (f_X12_drawsState Z M11 v12 v13) (fun v14 M15 => wrI M15 109 54 (((43 : Int32) + x5) + (1 : Int32)) v14 (fun M16 => f_X12_walks_L27 Z n (x5 + (1 : Int32)) M16)))))))))
def f_X12_walks (Z : Nat) (M : Mem)  : Option (Unit × Mem) :=
  rdI M 109 54 (1 : Int32) (fun v1 => wrI M 109 54 (3 : Int32) v1 (fun M2 => rdI M2 109 54 (0 : Int32) (fun v3 => wrI M2 109 54 (43 : Int32) v3 (fun M4 => f_X12_walks_L27 Z Z (0 : Int32) M4))))
set_option maxRecDepth 100000 in
theorem l_X12_walks_L27 {Γ : WC} {X : MX} (hN : HN Γ) (C : CX Γ X cX12_walks 2 RX12 none (rmL 2 0 0)) {rM : Unit × Mem} (E : EndN Γ X none rM.2 0 0) {Z : Nat} : ∀ (n : Nat) (x5 : Int32) (M6 : Mem), f_X12_walks_L27 Z n x5 M6 = some rM → G Γ X M6 0 0 [some (.ref (wad Γ 108)), some (.int x5)] [] 27 := by
  intro n
  induction n with
  | zero =>
    intro x5 M6 hf
    have hf0 : (none : Option _) = some rM := hf
    cases hf0
  | succ n ih =>
    intro x5 M6 hf
    rw [f_X12_walks_L27] at hf
    refine x_iload_n C rfl rfl (dkAt dk_X12_walks 18 rfl) 28 rfl ?_
    refine x_aload_n C rfl rfl (dkAt dk_X12_walks 19 rfl) 29 rfl ?_
    refine x_getS C lk_RX12_7 (hN.sh sh108) (hN.sr sr108_2) (dkAt dk_X12_walks 20 rfl) 32 rfl ?_
    refine x_iconst C (v := (1 : Int32)) (by decide) (dkAt dk_X12_walks 21 rfl) 33 rfl ?_
    refine x_iald C (hN.sh sh109) (dkAt dk_X12_walks 22 rfl) 34 rfl hf (fun v7 hf => ?_)
    refine x_icmp_ge C 98 (dkAt dk_X12_walks 23 rfl) 37 rfl (by decide) hf (fun hf => ?_) (fun hf => ?_)
    · exact x_vret C E hf (by decide) (by decide) (dkAt dk_X12_walks 62 rfl)
    · refine x_aload_n C rfl rfl (dkAt dk_X12_walks 24 rfl) 38 rfl ?_
      refine x_getS C lk_RX12_7 (hN.sh sh108) (hN.sr sr108_2) (dkAt dk_X12_walks 25 rfl) 41 rfl ?_
      refine x_bipush C (v := (49 : Int32)) (by decide) (dkAt dk_X12_walks 26 rfl) 43 rfl ?_
      refine x_iload_n C rfl rfl (dkAt dk_X12_walks 27 rfl) 44 rfl ?_
      refine x_iadd C (dkAt dk_X12_walks 28 rfl) 45 rfl ?_
      refine x_aload_n C rfl rfl (dkAt dk_X12_walks 29 rfl) 46 rfl ?_
      refine x_aload_n C rfl rfl (dkAt dk_X12_walks 30 rfl) 47 rfl ?_
      refine x_getS C lk_RX12_7 (hN.sh sh108) (hN.sr sr108_2) (dkAt dk_X12_walks 31 rfl) 50 rfl ?_
      refine x_bipush C (v := (43 : Int32)) (by decide) (dkAt dk_X12_walks 32 rfl) 52 rfl ?_
      refine x_iload_n C rfl rfl (dkAt dk_X12_walks 33 rfl) 53 rfl ?_
      refine x_iadd C (dkAt dk_X12_walks 34 rfl) 54 rfl ?_
      refine x_iald C (hN.sh sh109) (dkAt dk_X12_walks 35 rfl) 55 rfl hf (fun v8 hf => ?_)
      obtain ⟨v9, M10, h18, hf⟩ := cl_inv hf
      refine x_cVi C (c_X12_drawsAction hN h18) mw_X12_drawsAction ln_RX12_368 mi_X12_drawsAction (hN.rc (ci := 12) sh108 rc12) (ro_of (by decide) (by decide) (by decide) (by decide)) rfl rfl (Nat.le_of_ble_eq_true rfl) (dkAt dk_X12_walks 36 rfl) 58 rfl 0 0 rfl rfl ?_
      refine x_iast C (hN.sh sh109) (dkAt dk_X12_walks 37 rfl) 59 rfl hf (fun M11 hf => ?_)
      refine x_aload_n C rfl rfl (dkAt dk_X12_walks 38 rfl) 60 rfl ?_
      refine x_getS C lk_RX12_7 (hN.sh sh108) (hN.sr sr108_2) (dkAt dk_X12_walks 39 rfl) 63 rfl ?_
      refine x_bipush C (v := (43 : Int32)) (by decide) (dkAt dk_X12_walks 40 rfl) 65 rfl ?_
      refine x_iload_n C rfl rfl (dkAt dk_X12_walks 41 rfl) 66 rfl ?_
      refine x_iadd C (dkAt dk_X12_walks 42 rfl) 67 rfl ?_
      refine x_iconst C (v := (1 : Int32)) (by decide) (dkAt dk_X12_walks 43 rfl) 68 rfl ?_
      refine x_iadd C (dkAt dk_X12_walks 44 rfl) 69 rfl ?_
      refine x_aload_n C rfl rfl (dkAt dk_X12_walks 45 rfl) 70 rfl ?_
      refine x_aload_n C rfl rfl (dkAt dk_X12_walks 46 rfl) 71 rfl ?_
      refine x_getS C lk_RX12_7 (hN.sh sh108) (hN.sr sr108_2) (dkAt dk_X12_walks 47 rfl) 74 rfl ?_
      refine x_bipush C (v := (43 : Int32)) (by decide) (dkAt dk_X12_walks 48 rfl) 76 rfl ?_
      refine x_iload_n C rfl rfl (dkAt dk_X12_walks 49 rfl) 77 rfl ?_
      refine x_iadd C (dkAt dk_X12_walks 50 rfl) 78 rfl ?_
      refine x_iald C (hN.sh sh109) (dkAt dk_X12_walks 51 rfl) 79 rfl hf (fun v12 hf => ?_)
      refine x_aload_n C rfl rfl (dkAt dk_X12_walks 52 rfl) 80 rfl ?_
      refine x_getS C lk_RX12_7 (hN.sh sh108) (hN.sr sr108_2) (dkAt dk_X12_walks 53 rfl) 83 rfl ?_
      refine x_bipush C (v := (49 : Int32)) (by decide) (dkAt dk_X12_walks 54 rfl) 85 rfl ?_
      refine x_iload_n C rfl rfl (dkAt dk_X12_walks 55 rfl) 86 rfl ?_
      refine x_iadd C (dkAt dk_X12_walks 56 rfl) 87 rfl ?_
      refine x_iald C (hN.sh sh109) (dkAt dk_X12_walks 57 rfl) 88 rfl hf (fun v13 hf => ?_)
      obtain ⟨v14, M15, h17, hf⟩ := cl_inv hf
      refine x_cVi C (c_X12_drawsState hN h17) mw_X12_drawsState ln_RX12_371 mi_X12_drawsState (hN.rc (ci := 12) sh108 rc12) (ro_of (by decide) (by decide) (by decide) (by decide)) rfl rfl (Nat.le_of_ble_eq_true rfl) (dkAt dk_X12_walks 58 rfl) 91 rfl 0 0 rfl rfl ?_
      refine x_iast C (hN.sh sh109) (dkAt dk_X12_walks 59 rfl) 92 rfl hf (fun M16 hf => ?_)
      refine x_iinc C (v := (x5 + (1 : Int32))) (L1 := [some (.ref (wad Γ 108)), some (.int (x5 + (1 : Int32)))]) (dkAt dk_X12_walks 60 rfl) 95 rfl rfl rfl (by decide) rfl ?_
      refine x_goto C 27 (dkAt dk_X12_walks 61 rfl) (by decide) ?_
      exact G.weak (L := [some (.ref (wad Γ 108)), some (.int (x5 + (1 : Int32)))]) ⟨rfl, rfl, trivial⟩ (ih _ _ hf)
set_option maxRecDepth 100000 in
theorem c_X12_walks {Γ : WC} (hN : HN Γ) {Z : Nat} {M : Mem}  {rM : Unit × Mem}  (hf : f_X12_walks Z M  = some rM) : Ct Γ yX12_walks cX12_walks 2 none (rmL 2 0 0) [.ref (wad Γ 108)] M none rM.2 := by
  refine mkN hN.1 (own := RX12) rfl (by decide) (Nat.le_of_ble_eq_true rfl) (fun X C E => ?_)
  change G Γ X M 0 0 [some (.ref (wad Γ 108))] [] 0
  unfold f_X12_walks at hf
  refine x_aload_n C rfl rfl (dkAt dk_X12_walks 0 rfl) 1 rfl ?_
  refine x_getS C lk_RX12_7 (hN.sh sh108) (hN.sr sr108_2) (dkAt dk_X12_walks 1 rfl) 4 rfl ?_
  refine x_iconst C (v := (3 : Int32)) (by decide) (dkAt dk_X12_walks 2 rfl) 5 rfl ?_
  refine x_aload_n C rfl rfl (dkAt dk_X12_walks 3 rfl) 6 rfl ?_
  refine x_getS C lk_RX12_7 (hN.sh sh108) (hN.sr sr108_2) (dkAt dk_X12_walks 4 rfl) 9 rfl ?_
  refine x_iconst C (v := (1 : Int32)) (by decide) (dkAt dk_X12_walks 5 rfl) 10 rfl ?_
  refine x_iald C (hN.sh sh109) (dkAt dk_X12_walks 6 rfl) 11 rfl hf (fun v1 hf => ?_)
  refine x_iast C (hN.sh sh109) (dkAt dk_X12_walks 7 rfl) 12 rfl hf (fun M2 hf => ?_)
  refine x_aload_n C rfl rfl (dkAt dk_X12_walks 8 rfl) 13 rfl ?_
  refine x_getS C lk_RX12_7 (hN.sh sh108) (hN.sr sr108_2) (dkAt dk_X12_walks 9 rfl) 16 rfl ?_
  refine x_bipush C (v := (43 : Int32)) (by decide) (dkAt dk_X12_walks 10 rfl) 18 rfl ?_
  refine x_aload_n C rfl rfl (dkAt dk_X12_walks 11 rfl) 19 rfl ?_
  refine x_getS C lk_RX12_7 (hN.sh sh108) (hN.sr sr108_2) (dkAt dk_X12_walks 12 rfl) 22 rfl ?_
  refine x_iconst C (v := (0 : Int32)) (by decide) (dkAt dk_X12_walks 13 rfl) 23 rfl ?_
  refine x_iald C (hN.sh sh109) (dkAt dk_X12_walks 14 rfl) 24 rfl hf (fun v3 hf => ?_)
  refine x_iast C (hN.sh sh109) (dkAt dk_X12_walks 15 rfl) 25 rfl hf (fun M4 hf => ?_)
  refine x_iconst C (v := (0 : Int32)) (by decide) (dkAt dk_X12_walks 16 rfl) 26 rfl ?_
  refine x_istore_n C (L1 := [some (.ref (wad Γ 108)), some (.int (0 : Int32))]) (dkAt dk_X12_walks 17 rfl) 27 rfl rfl (by decide) rfl ?_
  refine G.weak (L := [some (.ref (wad Γ 108)), some (.int (0 : Int32))]) ⟨rfl, rfl, trivial⟩ ?_
  refine l_X12_walks_L27 hN C E Z _ _ hf
def f_X12_ofWalk_L4 (Z : Nat) (p0 : Int32) : Nat → Int32 → Int32 → Mem → Option (Int32 × Mem)
  | 0, _, _, _ => none
  | n + 1, x1, x2, M3 => rdI M3 109 54 (3 : Int32) (fun v4 => (if v4 ≤ x2 then some (x1, M3) else jn (fun (t5 : Int32 × Mem) => f_X12_ofWalk_L4 Z p0 n (x1 + t5.1) (x2 + (1 : Int32)) t5.2) (fun j6 => (if 0 ≤ p0 then rdI M3 109 54 ((43 : Int32) + x2) (fun v7 => rdI M3 109 54 ((49 : Int32) + x2) (fun v8 => cl (f_X12_usesBy Z M3 v7 v8 p0) (fun v9 M10 => j6 (v9, M10)))) else rdI M3 109 54 ((43 : Int32) + x2) (fun v12 => rdI M3 109 54 ((49 : Int32) + x2) (fun v13 => cl (f_X12_gainBy Z M3 v12 v13) (fun v14 M15 => j6 (v14, M15))))))))
def f_X12_ofWalk (Z : Nat) (M : Mem) (p0 : Int32) : Option (Int32 × Mem) :=
  f_X12_ofWalk_L4 Z p0 Z (0 : Int32) (0 : Int32) M
set_option maxRecDepth 100000 in
theorem l_X12_ofWalk_L4 {Γ : WC} {X : MX} (hN : HN Γ) (C : CX Γ X cX12_ofWalk 4 RX12 (some .int) (rmL 1 0 0)) {rM : Int32 × Mem} (E : EndN Γ X (some (.int rM.1)) rM.2 0 0) {Z : Nat} {p0 : Int32} : ∀ (n : Nat) (x1 : Int32) (x2 : Int32) (M3 : Mem), f_X12_ofWalk_L4 Z p0 n x1 x2 M3 = some rM → G Γ X M3 0 0 [some (.ref (wad Γ 108)), some (.int p0), some (.int x1), some (.int x2)] [] 4 := by
  intro n
  induction n with
  | zero =>
    intro x1 x2 M3 hf
    have hf0 : (none : Option _) = some rM := hf
    cases hf0
  | succ n ih =>
    intro x1 x2 M3 hf
    rw [f_X12_ofWalk_L4] at hf
    refine x_iload_n C rfl rfl (dkAt dk_X12_ofWalk 4 rfl) 5 rfl ?_
    refine x_aload_n C rfl rfl (dkAt dk_X12_ofWalk 5 rfl) 6 rfl ?_
    refine x_getS C lk_RX12_7 (hN.sh sh108) (hN.sr sr108_2) (dkAt dk_X12_ofWalk 6 rfl) 9 rfl ?_
    refine x_iconst C (v := (3 : Int32)) (by decide) (dkAt dk_X12_ofWalk 7 rfl) 10 rfl ?_
    refine x_iald C (hN.sh sh109) (dkAt dk_X12_ofWalk 8 rfl) 11 rfl hf (fun v4 hf => ?_)
    refine x_icmp_ge C 75 (dkAt dk_X12_ofWalk 9 rfl) 14 rfl (by decide) hf (fun hf => ?_) (fun hf => ?_)
    · refine x_iload_n C rfl rfl (dkAt dk_X12_ofWalk 47 rfl) 76 rfl ?_
      exact x_iret C E hf (by decide) (by decide) (dkAt dk_X12_ofWalk 48 rfl)
    · refine x_iload_n C rfl rfl (dkAt dk_X12_ofWalk 10 rfl) 15 rfl ?_
      refine x_iload_n C rfl rfl (dkAt dk_X12_ofWalk 11 rfl) 16 rfl ?_
      refine x_join hf (fun t5 => G Γ X t5.2 0 0 [some (.ref (wad Γ 108)), some (.int p0), none, some (.int x2)] [.int t5.1, .int x1] 67) (fun t5 hf => ?_) (fun j6 hj6 hf => ?_)
      · refine x_iadd C (dkAt dk_X12_ofWalk 43 rfl) 68 rfl ?_
        refine x_istore_n C (L1 := [some (.ref (wad Γ 108)), some (.int p0), some (.int (x1 + t5.1)), some (.int x2)]) (dkAt dk_X12_ofWalk 44 rfl) 69 rfl rfl (by decide) rfl ?_
        refine x_iinc C (v := (x2 + (1 : Int32))) (L1 := [some (.ref (wad Γ 108)), some (.int p0), some (.int (x1 + t5.1)), some (.int (x2 + (1 : Int32)))]) (dkAt dk_X12_ofWalk 45 rfl) 72 rfl rfl rfl (by decide) rfl ?_
        refine x_goto C 4 (dkAt dk_X12_ofWalk 46 rfl) (by decide) ?_
        exact G.weak (L := [some (.ref (wad Γ 108)), some (.int p0), some (.int (x1 + t5.1)), some (.int (x2 + (1 : Int32)))]) ⟨rfl, rfl, rfl, rfl, trivial⟩ (ih _ _ _ hf)
      · refine x_if_ge C 44 (dkAt dk_X12_ofWalk 12 rfl) 19 rfl (by decide) hf (fun hf => ?_) (fun hf => ?_)
        · refine x_aload_n C rfl rfl (dkAt dk_X12_ofWalk 28 rfl) 45 rfl ?_
          refine x_aload_n C rfl rfl (dkAt dk_X12_ofWalk 29 rfl) 46 rfl ?_
          refine x_getS C lk_RX12_7 (hN.sh sh108) (hN.sr sr108_2) (dkAt dk_X12_ofWalk 30 rfl) 49 rfl ?_
          refine x_bipush C (v := (43 : Int32)) (by decide) (dkAt dk_X12_ofWalk 31 rfl) 51 rfl ?_
          refine x_iload_n C rfl rfl (dkAt dk_X12_ofWalk 32 rfl) 52 rfl ?_
          refine x_iadd C (dkAt dk_X12_ofWalk 33 rfl) 53 rfl ?_
          refine x_iald C (hN.sh sh109) (dkAt dk_X12_ofWalk 34 rfl) 54 rfl hf (fun v7 hf => ?_)
          refine x_aload_n C rfl rfl (dkAt dk_X12_ofWalk 35 rfl) 55 rfl ?_
          refine x_getS C lk_RX12_7 (hN.sh sh108) (hN.sr sr108_2) (dkAt dk_X12_ofWalk 36 rfl) 58 rfl ?_
          refine x_bipush C (v := (49 : Int32)) (by decide) (dkAt dk_X12_ofWalk 37 rfl) 60 rfl ?_
          refine x_iload_n C rfl rfl (dkAt dk_X12_ofWalk 38 rfl) 61 rfl ?_
          refine x_iadd C (dkAt dk_X12_ofWalk 39 rfl) 62 rfl ?_
          refine x_iald C (hN.sh sh109) (dkAt dk_X12_ofWalk 40 rfl) 63 rfl hf (fun v8 hf => ?_)
          refine x_iload_n C rfl rfl (dkAt dk_X12_ofWalk 41 rfl) 64 rfl ?_
          obtain ⟨v9, M10, h11, hf⟩ := cl_inv hf
          refine x_cVi C (c_X12_usesBy hN h11) mw_X12_usesBy ln_RX12_245 mi_X12_usesBy (hN.rc (ci := 12) sh108 rc12) (ro_of (by decide) (by decide) (by decide) (by decide)) rfl rfl (Nat.le_of_ble_eq_true rfl) (dkAt dk_X12_ofWalk 42 rfl) 67 rfl 0 0 rfl rfl ?_
          exact G.weak (L := [some (.ref (wad Γ 108)), some (.int p0), none, some (.int x2)]) ⟨rfl, rfl, rfl, trivial⟩ (hj6 _ hf)
        · refine x_aload_n C rfl rfl (dkAt dk_X12_ofWalk 13 rfl) 20 rfl ?_
          refine x_aload_n C rfl rfl (dkAt dk_X12_ofWalk 14 rfl) 21 rfl ?_
          refine x_getS C lk_RX12_7 (hN.sh sh108) (hN.sr sr108_2) (dkAt dk_X12_ofWalk 15 rfl) 24 rfl ?_
          refine x_bipush C (v := (43 : Int32)) (by decide) (dkAt dk_X12_ofWalk 16 rfl) 26 rfl ?_
          refine x_iload_n C rfl rfl (dkAt dk_X12_ofWalk 17 rfl) 27 rfl ?_
          refine x_iadd C (dkAt dk_X12_ofWalk 18 rfl) 28 rfl ?_
          refine x_iald C (hN.sh sh109) (dkAt dk_X12_ofWalk 19 rfl) 29 rfl hf (fun v12 hf => ?_)
          refine x_aload_n C rfl rfl (dkAt dk_X12_ofWalk 20 rfl) 30 rfl ?_
          refine x_getS C lk_RX12_7 (hN.sh sh108) (hN.sr sr108_2) (dkAt dk_X12_ofWalk 21 rfl) 33 rfl ?_
          refine x_bipush C (v := (49 : Int32)) (by decide) (dkAt dk_X12_ofWalk 22 rfl) 35 rfl ?_
          refine x_iload_n C rfl rfl (dkAt dk_X12_ofWalk 23 rfl) 36 rfl ?_
          refine x_iadd C (dkAt dk_X12_ofWalk 24 rfl) 37 rfl ?_
          refine x_iald C (hN.sh sh109) (dkAt dk_X12_ofWalk 25 rfl) 38 rfl hf (fun v13 hf => ?_)
          obtain ⟨v14, M15, h16, hf⟩ := cl_inv hf
          refine x_cVi C (c_X12_gainBy hN h16) mw_X12_gainBy ln_RX12_242 mi_X12_gainBy (hN.rc (ci := 12) sh108 rc12) (ro_of (by decide) (by decide) (by decide) (by decide)) rfl rfl (Nat.le_of_ble_eq_true rfl) (dkAt dk_X12_ofWalk 26 rfl) 41 rfl 0 0 rfl rfl ?_
          refine x_goto C 67 (dkAt dk_X12_ofWalk 27 rfl) (by decide) ?_
          exact G.weak (L := [some (.ref (wad Γ 108)), some (.int p0), none, some (.int x2)]) ⟨rfl, rfl, rfl, trivial⟩ (hj6 _ hf)
set_option maxRecDepth 100000 in
theorem c_X12_ofWalk {Γ : WC} (hN : HN Γ) {Z : Nat} {M : Mem} {p0 : Int32} {rM : Int32 × Mem}  (hf : f_X12_ofWalk Z M p0 = some rM) : Ct Γ yX12_ofWalk cX12_ofWalk 4 (some .int) (rmL 1 0 0) [.ref (wad Γ 108), .int p0] M (some (.int rM.1)) rM.2 := by
  refine mkN hN.1 (own := RX12) rfl (by decide) (Nat.le_of_ble_eq_true rfl) (fun X C E => ?_)
  change G Γ X M 0 0 [some (.ref (wad Γ 108)), some (.int p0)] [] 0
  unfold f_X12_ofWalk at hf
  refine x_iconst C (v := (0 : Int32)) (by decide) (dkAt dk_X12_ofWalk 0 rfl) 1 rfl ?_
  refine x_istore_n C (L1 := [some (.ref (wad Γ 108)), some (.int p0), some (.int (0 : Int32))]) (dkAt dk_X12_ofWalk 1 rfl) 2 rfl rfl (by decide) rfl ?_
  refine x_iconst C (v := (0 : Int32)) (by decide) (dkAt dk_X12_ofWalk 2 rfl) 3 rfl ?_
  refine x_istore_n C (L1 := [some (.ref (wad Γ 108)), some (.int p0), some (.int (0 : Int32)), some (.int (0 : Int32))]) (dkAt dk_X12_ofWalk 3 rfl) 4 rfl rfl (by decide) rfl ?_
  refine G.weak (L := [some (.ref (wad Γ 108)), some (.int p0), some (.int (0 : Int32)), some (.int (0 : Int32))]) ⟨rfl, rfl, rfl, rfl, trivial⟩ ?_
  refine l_X12_ofWalk_L4 hN C E Z _ _ _ hf
def f_X12_seed (Z : Nat) (M : Mem)  : Option (Int32 × Mem) :=
  cl (f_X12_noChain Z M) (fun v1 M2 => (if v1 = 0 then rdI M2 109 54 (2 : Int32) (fun v3 => some (v3, M2)) else some ((0 : Int32), M2)))
set_option maxRecDepth 100000 in
theorem c_X12_seed {Γ : WC} (hN : HN Γ) {Z : Nat} {M : Mem}  {rM : Int32 × Mem}  (hf : f_X12_seed Z M  = some rM) : Ct Γ yX12_seed cX12_seed 1 (some .int) (rmL 2 0 0) [.ref (wad Γ 108)] M (some (.int rM.1)) rM.2 := by
  refine mkN hN.1 (own := RX12) rfl (by decide) (Nat.le_of_ble_eq_true rfl) (fun X C E => ?_)
  change G Γ X M 0 0 [some (.ref (wad Γ 108))] [] 0
  unfold f_X12_seed at hf
  refine x_aload_n C rfl rfl (dkAt dk_X12_seed 0 rfl) 1 rfl ?_
  obtain ⟨v1, M2, h4, hf⟩ := cl_inv hf
  refine x_cVi C (c_X12_noChain hN h4) mw_X12_noChain ln_RX12_222 mi_X12_noChain (hN.rc (ci := 12) sh108 rc12) (ro_of (by decide) (by decide) (by decide) (by decide)) rfl rfl (Nat.le_of_ble_eq_true rfl) (dkAt dk_X12_seed 1 rfl) 4 rfl 0 0 rfl rfl ?_
  refine x_if_eq C 11 (dkAt dk_X12_seed 2 rfl) 7 rfl (by decide) hf (fun hf => ?_) (fun hf => ?_)
  · refine x_aload_n C rfl rfl (dkAt dk_X12_seed 5 rfl) 12 rfl ?_
    refine x_getS C lk_RX12_7 (hN.sh sh108) (hN.sr sr108_2) (dkAt dk_X12_seed 6 rfl) 15 rfl ?_
    refine x_iconst C (v := (2 : Int32)) (by decide) (dkAt dk_X12_seed 7 rfl) 16 rfl ?_
    refine x_iald C (hN.sh sh109) (dkAt dk_X12_seed 8 rfl) 17 rfl hf (fun v3 hf => ?_)
    exact x_iret C E hf (by decide) (by decide) (dkAt dk_X12_seed 9 rfl)
  · refine x_iconst C (v := (0 : Int32)) (by decide) (dkAt dk_X12_seed 3 rfl) 8 rfl ?_
    refine x_goto C 17 (dkAt dk_X12_seed 4 rfl) (by decide) ?_
    exact x_iret C E hf (by decide) (by decide) (dkAt dk_X12_seed 9 rfl)
def f_X12_noWalk (Z : Nat) (M : Mem)  : Option (Int32 × Mem) :=
  cl (f_X12_noChain Z M) (fun v1 M2 => (if v1 = 0 then rdI M2 109 54 (3 : Int32) (fun v3 => jn (fun (t4 : Int32) => cl (f_X12_refuse Z M2 t4 (1 : Int32)) (fun v5 M6 => (if v5 = 0 then some ((0 : Int32), M6) else some ((1 : Int32), M6)))) (fun j8 => (if 0 ≤ v3 then j8 (0 : Int32) else j8 (1 : Int32)))) else some ((1 : Int32), M2)))
set_option maxRecDepth 100000 in
theorem c_X12_noWalk {Γ : WC} (hN : HN Γ) {Z : Nat} {M : Mem}  {rM : Int32 × Mem}  (hf : f_X12_noWalk Z M  = some rM) : Ct Γ yX12_noWalk cX12_noWalk 1 (some .boolean) (rmL 2 0 0) [.ref (wad Γ 108)] M (some (.int rM.1)) rM.2 := by
  refine mkN hN.1 (own := RX12) rfl (by decide) (Nat.le_of_ble_eq_true rfl) (fun X C E => ?_)
  change G Γ X M 0 0 [some (.ref (wad Γ 108))] [] 0
  unfold f_X12_noWalk at hf
  refine x_aload_n C rfl rfl (dkAt dk_X12_noWalk 0 rfl) 1 rfl ?_
  obtain ⟨v1, M2, h9, hf⟩ := cl_inv hf
  refine x_cVi C (c_X12_noChain hN h9) mw_X12_noChain ln_RX12_222 mi_X12_noChain (hN.rc (ci := 12) sh108 rc12) (ro_of (by decide) (by decide) (by decide) (by decide)) rfl rfl (Nat.le_of_ble_eq_true rfl) (dkAt dk_X12_noWalk 1 rfl) 4 rfl 0 0 rfl rfl ?_
  refine x_if_ne C 29 (dkAt dk_X12_noWalk 2 rfl) 7 rfl (by decide) hf (fun hf => ?_) (fun hf => ?_)
  · refine x_iconst C (v := (1 : Int32)) (by decide) (dkAt dk_X12_noWalk 15 rfl) 30 rfl ?_
    refine x_goto C 34 (dkAt dk_X12_noWalk 16 rfl) (by decide) ?_
    exact x_zret C E (by decide) hf (by decide) (by decide) (dkAt dk_X12_noWalk 18 rfl)
  · refine x_aload_n C rfl rfl (dkAt dk_X12_noWalk 3 rfl) 8 rfl ?_
    refine x_aload_n C rfl rfl (dkAt dk_X12_noWalk 4 rfl) 9 rfl ?_
    refine x_getS C lk_RX12_7 (hN.sh sh108) (hN.sr sr108_2) (dkAt dk_X12_noWalk 5 rfl) 12 rfl ?_
    refine x_iconst C (v := (3 : Int32)) (by decide) (dkAt dk_X12_noWalk 6 rfl) 13 rfl ?_
    refine x_iald C (hN.sh sh109) (dkAt dk_X12_noWalk 7 rfl) 14 rfl hf (fun v3 hf => ?_)
    refine x_join hf (fun t4 => G Γ X M2 0 0 [] [.int t4, .ref (wad Γ 108)] 22) (fun t4 hf => ?_) (fun j8 hj8 hf => ?_)
    · refine x_iconst C (v := (1 : Int32)) (by decide) (dkAt dk_X12_noWalk 12 rfl) 23 rfl ?_
      obtain ⟨v5, M6, h7, hf⟩ := cl_inv hf
      refine x_cVi C (c_X12_refuse hN h7) mw_X12_refuse ln_RX12_68 mi_X12_refuse (hN.rc (ci := 12) sh108 rc12) (ro_of (by decide) (by decide) (by decide) (by decide)) rfl rfl (Nat.le_of_ble_eq_true rfl) (dkAt dk_X12_noWalk 13 rfl) 26 rfl 0 0 rfl rfl ?_
      refine x_if_eq C 33 (dkAt dk_X12_noWalk 14 rfl) 29 rfl (by decide) hf (fun hf => ?_) (fun hf => ?_)
      · refine x_iconst C (v := (0 : Int32)) (by decide) (dkAt dk_X12_noWalk 17 rfl) 34 rfl ?_
        exact x_zret C E (by decide) hf (by decide) (by decide) (dkAt dk_X12_noWalk 18 rfl)
      · refine x_iconst C (v := (1 : Int32)) (by decide) (dkAt dk_X12_noWalk 15 rfl) 30 rfl ?_
        refine x_goto C 34 (dkAt dk_X12_noWalk 16 rfl) (by decide) ?_
        exact x_zret C E (by decide) hf (by decide) (by decide) (dkAt dk_X12_noWalk 18 rfl)
    · refine x_if_ge C 21 (dkAt dk_X12_noWalk 8 rfl) 17 rfl (by decide) hf (fun hf => ?_) (fun hf => ?_)
      · refine x_iconst C (v := (0 : Int32)) (by decide) (dkAt dk_X12_noWalk 11 rfl) 22 rfl ?_
        exact G.weak (L := []) trivial (hj8 _ hf)
      · refine x_iconst C (v := (1 : Int32)) (by decide) (dkAt dk_X12_noWalk 9 rfl) 18 rfl ?_
        refine x_goto C 22 (dkAt dk_X12_noWalk 10 rfl) (by decide) ?_
        exact G.weak (L := []) trivial (hj8 _ hf)
def f_X12_walked (Z : Nat) (M : Mem) (p0 : Int32) : Option (Int32 × Mem) :=
  cl (f_X12_noWalk Z M) (fun v1 M2 => (if v1 = 0 then rdI M2 109 54 (3 : Int32) (fun v3 => cl (f_X12_in Z M2 p0.toInt64 (0 : Int64) v3.toInt64) (fun v4 M5 => jn (fun (t6 : Int32) => cl (f_X12_refuse Z M5 t6 (2 : Int32)) (fun v7 M8 => (if v7 = 0 then rdI M8 109 54 ((43 : Int32) + p0) (fun v9 => some (v9, M8)) else some ((0 : Int32), M8)))) (fun j11 => (if v4 = 0 then j11 (1 : Int32) else j11 (0 : Int32))))) else some ((0 : Int32), M2)))
set_option maxRecDepth 100000 in
theorem c_X12_walked {Γ : WC} (hN : HN Γ) {Z : Nat} {M : Mem} {p0 : Int32} {rM : Int32 × Mem}  (hf : f_X12_walked Z M p0 = some rM) : Ct Γ yX12_walked cX12_walked 2 (some .int) (rmL 3 0 0) [.ref (wad Γ 108), .int p0] M (some (.int rM.1)) rM.2 := by
  refine mkN hN.1 (own := RX12) rfl (by decide) (Nat.le_of_ble_eq_true rfl) (fun X C E => ?_)
  change G Γ X M 0 0 [some (.ref (wad Γ 108)), some (.int p0)] [] 0
  unfold f_X12_walked at hf
  refine x_aload_n C rfl rfl (dkAt dk_X12_walked 0 rfl) 1 rfl ?_
  obtain ⟨v1, M2, h13, hf⟩ := cl_inv hf
  refine x_cVi C (c_X12_noWalk hN h13) mw_X12_noWalk ln_RX12_374 mi_X12_noWalk (hN.rc (ci := 12) sh108 rc12) (ro_of (by decide) (by decide) (by decide) (by decide)) rfl rfl (Nat.le_of_ble_eq_true rfl) (dkAt dk_X12_walked 1 rfl) 4 rfl 0 0 rfl rfl ?_
  refine x_if_ne C 36 (dkAt dk_X12_walked 2 rfl) 7 rfl (by decide) hf (fun hf => ?_) (fun hf => ?_)
  · refine x_iconst C (v := (0 : Int32)) (by decide) (dkAt dk_X12_walked 20 rfl) 37 rfl ?_
    refine x_goto C 49 (dkAt dk_X12_walked 21 rfl) (by decide) ?_
    exact x_iret C E hf (by decide) (by decide) (dkAt dk_X12_walked 28 rfl)
  · refine x_aload_n C rfl rfl (dkAt dk_X12_walked 3 rfl) 8 rfl ?_
    refine x_iload_n C rfl rfl (dkAt dk_X12_walked 4 rfl) 9 rfl ?_
    refine x_i2l C (dkAt dk_X12_walked 5 rfl) 10 rfl ?_
    refine x_lconst C (v := (0 : Int64)) (by decide) (dkAt dk_X12_walked 6 rfl) 11 rfl ?_
    refine x_aload_n C rfl rfl (dkAt dk_X12_walked 7 rfl) 12 rfl ?_
    refine x_getS C lk_RX12_7 (hN.sh sh108) (hN.sr sr108_2) (dkAt dk_X12_walked 8 rfl) 15 rfl ?_
    refine x_iconst C (v := (3 : Int32)) (by decide) (dkAt dk_X12_walked 9 rfl) 16 rfl ?_
    refine x_iald C (hN.sh sh109) (dkAt dk_X12_walked 10 rfl) 17 rfl hf (fun v3 hf => ?_)
    refine x_i2l C (dkAt dk_X12_walked 11 rfl) 18 rfl ?_
    obtain ⟨v4, M5, h12, hf⟩ := cl_inv hf
    refine x_cSi C (c_X12_in hN h12) mw_X12_in ln_RX12_137 ms_X12_in (ro_of (by decide) (by decide) (by decide) (by decide)) rfl rfl (Nat.le_of_ble_eq_true rfl) (dkAt dk_X12_walked 12 rfl) 21 rfl 0 0 rfl rfl ?_
    refine x_join hf (fun t6 => G Γ X M5 0 0 [some (.ref (wad Γ 108)), some (.int p0)] [.int t6, .ref (wad Γ 108)] 29) (fun t6 hf => ?_) (fun j11 hj11 hf => ?_)
    · refine x_iconst C (v := (2 : Int32)) (by decide) (dkAt dk_X12_walked 17 rfl) 30 rfl ?_
      obtain ⟨v7, M8, h10, hf⟩ := cl_inv hf
      refine x_cVi C (c_X12_refuse hN h10) mw_X12_refuse ln_RX12_68 mi_X12_refuse (hN.rc (ci := 12) sh108 rc12) (ro_of (by decide) (by decide) (by decide) (by decide)) rfl rfl (Nat.le_of_ble_eq_true rfl) (dkAt dk_X12_walked 18 rfl) 33 rfl 0 0 rfl rfl ?_
      refine x_if_eq C 40 (dkAt dk_X12_walked 19 rfl) 36 rfl (by decide) hf (fun hf => ?_) (fun hf => ?_)
      · refine x_aload_n C rfl rfl (dkAt dk_X12_walked 22 rfl) 41 rfl ?_
        refine x_getS C lk_RX12_7 (hN.sh sh108) (hN.sr sr108_2) (dkAt dk_X12_walked 23 rfl) 44 rfl ?_
        refine x_bipush C (v := (43 : Int32)) (by decide) (dkAt dk_X12_walked 24 rfl) 46 rfl ?_
        refine x_iload_n C rfl rfl (dkAt dk_X12_walked 25 rfl) 47 rfl ?_
        refine x_iadd C (dkAt dk_X12_walked 26 rfl) 48 rfl ?_
        refine x_iald C (hN.sh sh109) (dkAt dk_X12_walked 27 rfl) 49 rfl hf (fun v9 hf => ?_)
        exact x_iret C E hf (by decide) (by decide) (dkAt dk_X12_walked 28 rfl)
      · refine x_iconst C (v := (0 : Int32)) (by decide) (dkAt dk_X12_walked 20 rfl) 37 rfl ?_
        refine x_goto C 49 (dkAt dk_X12_walked 21 rfl) (by decide) ?_
        exact x_iret C E hf (by decide) (by decide) (dkAt dk_X12_walked 28 rfl)
    · refine x_if_ne C 28 (dkAt dk_X12_walked 13 rfl) 24 rfl (by decide) hf (fun hf => ?_) (fun hf => ?_)
      · refine x_iconst C (v := (0 : Int32)) (by decide) (dkAt dk_X12_walked 16 rfl) 29 rfl ?_
        exact G.weak (L := [some (.ref (wad Γ 108)), some (.int p0)]) ⟨rfl, rfl, trivial⟩ (hj11 _ hf)
      · refine x_iconst C (v := (1 : Int32)) (by decide) (dkAt dk_X12_walked 14 rfl) 25 rfl ?_
        refine x_goto C 29 (dkAt dk_X12_walked 15 rfl) (by decide) ?_
        exact G.weak (L := [some (.ref (wad Γ 108)), some (.int p0)]) ⟨rfl, rfl, trivial⟩ (hj11 _ hf)
def f_X12_walkedBy (Z : Nat) (M : Mem) (p0 : Int32) : Option (Int32 × Mem) :=
  cl (f_X12_noWalk Z M) (fun v1 M2 => (if v1 = 0 then rdI M2 109 54 (3 : Int32) (fun v3 => cl (f_X12_in Z M2 p0.toInt64 (0 : Int64) ((v3 - (1 : Int32)).toInt64)) (fun v4 M5 => jn (fun (t6 : Int32) => cl (f_X12_refuse Z M5 t6 (2 : Int32)) (fun v7 M8 => (if v7 = 0 then rdI M8 109 54 ((49 : Int32) + p0) (fun v9 => some (v9, M8)) else some ((0 : Int32), M8)))) (fun j11 => (if v4 = 0 then j11 (1 : Int32) else j11 (0 : Int32))))) else some ((0 : Int32), M2)))
set_option maxRecDepth 100000 in
theorem c_X12_walkedBy {Γ : WC} (hN : HN Γ) {Z : Nat} {M : Mem} {p0 : Int32} {rM : Int32 × Mem}  (hf : f_X12_walkedBy Z M p0 = some rM) : Ct Γ yX12_walkedBy cX12_walkedBy 2 (some .int) (rmL 3 0 0) [.ref (wad Γ 108), .int p0] M (some (.int rM.1)) rM.2 := by
  refine mkN hN.1 (own := RX12) rfl (by decide) (Nat.le_of_ble_eq_true rfl) (fun X C E => ?_)
  change G Γ X M 0 0 [some (.ref (wad Γ 108)), some (.int p0)] [] 0
  unfold f_X12_walkedBy at hf
  refine x_aload_n C rfl rfl (dkAt dk_X12_walkedBy 0 rfl) 1 rfl ?_
  obtain ⟨v1, M2, h13, hf⟩ := cl_inv hf
  refine x_cVi C (c_X12_noWalk hN h13) mw_X12_noWalk ln_RX12_374 mi_X12_noWalk (hN.rc (ci := 12) sh108 rc12) (ro_of (by decide) (by decide) (by decide) (by decide)) rfl rfl (Nat.le_of_ble_eq_true rfl) (dkAt dk_X12_walkedBy 1 rfl) 4 rfl 0 0 rfl rfl ?_
  refine x_if_ne C 38 (dkAt dk_X12_walkedBy 2 rfl) 7 rfl (by decide) hf (fun hf => ?_) (fun hf => ?_)
  · refine x_iconst C (v := (0 : Int32)) (by decide) (dkAt dk_X12_walkedBy 22 rfl) 39 rfl ?_
    refine x_goto C 51 (dkAt dk_X12_walkedBy 23 rfl) (by decide) ?_
    exact x_iret C E hf (by decide) (by decide) (dkAt dk_X12_walkedBy 30 rfl)
  · refine x_aload_n C rfl rfl (dkAt dk_X12_walkedBy 3 rfl) 8 rfl ?_
    refine x_iload_n C rfl rfl (dkAt dk_X12_walkedBy 4 rfl) 9 rfl ?_
    refine x_i2l C (dkAt dk_X12_walkedBy 5 rfl) 10 rfl ?_
    refine x_lconst C (v := (0 : Int64)) (by decide) (dkAt dk_X12_walkedBy 6 rfl) 11 rfl ?_
    refine x_aload_n C rfl rfl (dkAt dk_X12_walkedBy 7 rfl) 12 rfl ?_
    refine x_getS C lk_RX12_7 (hN.sh sh108) (hN.sr sr108_2) (dkAt dk_X12_walkedBy 8 rfl) 15 rfl ?_
    refine x_iconst C (v := (3 : Int32)) (by decide) (dkAt dk_X12_walkedBy 9 rfl) 16 rfl ?_
    refine x_iald C (hN.sh sh109) (dkAt dk_X12_walkedBy 10 rfl) 17 rfl hf (fun v3 hf => ?_)
    refine x_iconst C (v := (1 : Int32)) (by decide) (dkAt dk_X12_walkedBy 11 rfl) 18 rfl ?_
    refine x_isub C (dkAt dk_X12_walkedBy 12 rfl) 19 rfl ?_
    refine x_i2l C (dkAt dk_X12_walkedBy 13 rfl) 20 rfl ?_
    obtain ⟨v4, M5, h12, hf⟩ := cl_inv hf
    refine x_cSi C (c_X12_in hN h12) mw_X12_in ln_RX12_137 ms_X12_in (ro_of (by decide) (by decide) (by decide) (by decide)) rfl rfl (Nat.le_of_ble_eq_true rfl) (dkAt dk_X12_walkedBy 14 rfl) 23 rfl 0 0 rfl rfl ?_
    refine x_join hf (fun t6 => G Γ X M5 0 0 [some (.ref (wad Γ 108)), some (.int p0)] [.int t6, .ref (wad Γ 108)] 31) (fun t6 hf => ?_) (fun j11 hj11 hf => ?_)
    · refine x_iconst C (v := (2 : Int32)) (by decide) (dkAt dk_X12_walkedBy 19 rfl) 32 rfl ?_
      obtain ⟨v7, M8, h10, hf⟩ := cl_inv hf
      refine x_cVi C (c_X12_refuse hN h10) mw_X12_refuse ln_RX12_68 mi_X12_refuse (hN.rc (ci := 12) sh108 rc12) (ro_of (by decide) (by decide) (by decide) (by decide)) rfl rfl (Nat.le_of_ble_eq_true rfl) (dkAt dk_X12_walkedBy 20 rfl) 35 rfl 0 0 rfl rfl ?_
      refine x_if_eq C 42 (dkAt dk_X12_walkedBy 21 rfl) 38 rfl (by decide) hf (fun hf => ?_) (fun hf => ?_)
      · refine x_aload_n C rfl rfl (dkAt dk_X12_walkedBy 24 rfl) 43 rfl ?_
        refine x_getS C lk_RX12_7 (hN.sh sh108) (hN.sr sr108_2) (dkAt dk_X12_walkedBy 25 rfl) 46 rfl ?_
        refine x_bipush C (v := (49 : Int32)) (by decide) (dkAt dk_X12_walkedBy 26 rfl) 48 rfl ?_
        refine x_iload_n C rfl rfl (dkAt dk_X12_walkedBy 27 rfl) 49 rfl ?_
        refine x_iadd C (dkAt dk_X12_walkedBy 28 rfl) 50 rfl ?_
        refine x_iald C (hN.sh sh109) (dkAt dk_X12_walkedBy 29 rfl) 51 rfl hf (fun v9 hf => ?_)
        exact x_iret C E hf (by decide) (by decide) (dkAt dk_X12_walkedBy 30 rfl)
      · refine x_iconst C (v := (0 : Int32)) (by decide) (dkAt dk_X12_walkedBy 22 rfl) 39 rfl ?_
        refine x_goto C 51 (dkAt dk_X12_walkedBy 23 rfl) (by decide) ?_
        exact x_iret C E hf (by decide) (by decide) (dkAt dk_X12_walkedBy 30 rfl)
    · refine x_if_ne C 30 (dkAt dk_X12_walkedBy 15 rfl) 26 rfl (by decide) hf (fun hf => ?_) (fun hf => ?_)
      · refine x_iconst C (v := (0 : Int32)) (by decide) (dkAt dk_X12_walkedBy 18 rfl) 31 rfl ?_
        exact G.weak (L := [some (.ref (wad Γ 108)), some (.int p0)]) ⟨rfl, rfl, trivial⟩ (hj11 _ hf)
      · refine x_iconst C (v := (1 : Int32)) (by decide) (dkAt dk_X12_walkedBy 16 rfl) 27 rfl ?_
        refine x_goto C 31 (dkAt dk_X12_walkedBy 17 rfl) (by decide) ?_
        exact G.weak (L := [some (.ref (wad Γ 108)), some (.int p0)]) ⟨rfl, rfl, trivial⟩ (hj11 _ hf)
def f_X12_walkGain (Z : Nat) (M : Mem)  : Option (Int32 × Mem) :=
  cl (f_X12_noWalk Z M) (fun v1 M2 => (if v1 = 0 then cl (f_X12_ofWalk Z M2 (-1 : Int32)) (fun v3 M4 => some (v3, M4)) else some ((0 : Int32), M2)))
set_option maxRecDepth 100000 in
theorem c_X12_walkGain {Γ : WC} (hN : HN Γ) {Z : Nat} {M : Mem}  {rM : Int32 × Mem}  (hf : f_X12_walkGain Z M  = some rM) : Ct Γ yX12_walkGain cX12_walkGain 1 (some .int) (rmL 3 0 0) [.ref (wad Γ 108)] M (some (.int rM.1)) rM.2 := by
  refine mkN hN.1 (own := RX12) rfl (by decide) (Nat.le_of_ble_eq_true rfl) (fun X C E => ?_)
  change G Γ X M 0 0 [some (.ref (wad Γ 108))] [] 0
  unfold f_X12_walkGain at hf
  refine x_aload_n C rfl rfl (dkAt dk_X12_walkGain 0 rfl) 1 rfl ?_
  obtain ⟨v1, M2, h6, hf⟩ := cl_inv hf
  refine x_cVi C (c_X12_noWalk hN h6) mw_X12_noWalk ln_RX12_374 mi_X12_noWalk (hN.rc (ci := 12) sh108 rc12) (ro_of (by decide) (by decide) (by decide) (by decide)) rfl rfl (Nat.le_of_ble_eq_true rfl) (dkAt dk_X12_walkGain 1 rfl) 4 rfl 0 0 rfl rfl ?_
  refine x_if_eq C 11 (dkAt dk_X12_walkGain 2 rfl) 7 rfl (by decide) hf (fun hf => ?_) (fun hf => ?_)
  · refine x_aload_n C rfl rfl (dkAt dk_X12_walkGain 5 rfl) 12 rfl ?_
    refine x_iconst C (v := (-1 : Int32)) (by decide) (dkAt dk_X12_walkGain 6 rfl) 13 rfl ?_
    obtain ⟨v3, M4, h5, hf⟩ := cl_inv hf
    refine x_cVi C (c_X12_ofWalk hN h5) mw_X12_ofWalk ln_RX12_377 mi_X12_ofWalk (hN.rc (ci := 12) sh108 rc12) (ro_of (by decide) (by decide) (by decide) (by decide)) rfl rfl (Nat.le_of_ble_eq_true rfl) (dkAt dk_X12_walkGain 7 rfl) 16 rfl 0 0 rfl rfl ?_
    exact x_iret C E hf (by decide) (by decide) (dkAt dk_X12_walkGain 8 rfl)
  · refine x_iconst C (v := (0 : Int32)) (by decide) (dkAt dk_X12_walkGain 3 rfl) 8 rfl ?_
    refine x_goto C 16 (dkAt dk_X12_walkGain 4 rfl) (by decide) ?_
    exact x_iret C E hf (by decide) (by decide) (dkAt dk_X12_walkGain 8 rfl)
def f_X12_walkUsed (Z : Nat) (M : Mem) (p0 : Int32) : Option (Int32 × Mem) :=
  cl (f_X12_noWalk Z M) (fun v1 M2 => (if v1 = 0 then cl (f_X12_isBudget Z M2 p0) (fun v3 M4 => jn (fun (t5 : Int32) => cl (f_X12_refuse Z M4 t5 (2 : Int32)) (fun v6 M7 => (if v6 = 0 then cl (f_X12_ofWalk Z M7 p0) (fun v8 M9 => some (v8, M9)) else some ((0 : Int32), M7)))) (fun j12 => (if v3 = 0 then j12 (1 : Int32) else j12 (0 : Int32)))) else some ((0 : Int32), M2)))
set_option maxRecDepth 100000 in
theorem c_X12_walkUsed {Γ : WC} (hN : HN Γ) {Z : Nat} {M : Mem} {p0 : Int32} {rM : Int32 × Mem}  (hf : f_X12_walkUsed Z M p0 = some rM) : Ct Γ yX12_walkUsed cX12_walkUsed 2 (some .int) (rmL 3 0 0) [.ref (wad Γ 108), .int p0] M (some (.int rM.1)) rM.2 := by
  refine mkN hN.1 (own := RX12) rfl (by decide) (Nat.le_of_ble_eq_true rfl) (fun X C E => ?_)
  change G Γ X M 0 0 [some (.ref (wad Γ 108)), some (.int p0)] [] 0
  unfold f_X12_walkUsed at hf
  refine x_aload_n C rfl rfl (dkAt dk_X12_walkUsed 0 rfl) 1 rfl ?_
  obtain ⟨v1, M2, h14, hf⟩ := cl_inv hf
  refine x_cVi C (c_X12_noWalk hN h14) mw_X12_noWalk ln_RX12_374 mi_X12_noWalk (hN.rc (ci := 12) sh108 rc12) (ro_of (by decide) (by decide) (by decide) (by decide)) rfl rfl (Nat.le_of_ble_eq_true rfl) (dkAt dk_X12_walkUsed 1 rfl) 4 rfl 0 0 rfl rfl ?_
  refine x_if_ne C 28 (dkAt dk_X12_walkUsed 2 rfl) 7 rfl (by decide) hf (fun hf => ?_) (fun hf => ?_)
  · refine x_iconst C (v := (0 : Int32)) (by decide) (dkAt dk_X12_walkUsed 14 rfl) 29 rfl ?_
    refine x_goto C 37 (dkAt dk_X12_walkUsed 15 rfl) (by decide) ?_
    exact x_iret C E hf (by decide) (by decide) (dkAt dk_X12_walkUsed 19 rfl)
  · refine x_aload_n C rfl rfl (dkAt dk_X12_walkUsed 3 rfl) 8 rfl ?_
    refine x_aload_n C rfl rfl (dkAt dk_X12_walkUsed 4 rfl) 9 rfl ?_
    refine x_iload_n C rfl rfl (dkAt dk_X12_walkUsed 5 rfl) 10 rfl ?_
    obtain ⟨v3, M4, h13, hf⟩ := cl_inv hf
    refine x_cVi C (c_X12_isBudget hN h13) mw_X12_isBudget ln_RX12_230 mi_X12_isBudget (hN.rc (ci := 12) sh108 rc12) (ro_of (by decide) (by decide) (by decide) (by decide)) rfl rfl (Nat.le_of_ble_eq_true rfl) (dkAt dk_X12_walkUsed 6 rfl) 13 rfl 0 0 rfl rfl ?_
    refine x_join hf (fun t5 => G Γ X M4 0 0 [some (.ref (wad Γ 108)), some (.int p0)] [.int t5, .ref (wad Γ 108)] 21) (fun t5 hf => ?_) (fun j12 hj12 hf => ?_)
    · refine x_iconst C (v := (2 : Int32)) (by decide) (dkAt dk_X12_walkUsed 11 rfl) 22 rfl ?_
      obtain ⟨v6, M7, h11, hf⟩ := cl_inv hf
      refine x_cVi C (c_X12_refuse hN h11) mw_X12_refuse ln_RX12_68 mi_X12_refuse (hN.rc (ci := 12) sh108 rc12) (ro_of (by decide) (by decide) (by decide) (by decide)) rfl rfl (Nat.le_of_ble_eq_true rfl) (dkAt dk_X12_walkUsed 12 rfl) 25 rfl 0 0 rfl rfl ?_
      refine x_if_eq C 32 (dkAt dk_X12_walkUsed 13 rfl) 28 rfl (by decide) hf (fun hf => ?_) (fun hf => ?_)
      · refine x_aload_n C rfl rfl (dkAt dk_X12_walkUsed 16 rfl) 33 rfl ?_
        refine x_iload_n C rfl rfl (dkAt dk_X12_walkUsed 17 rfl) 34 rfl ?_
        obtain ⟨v8, M9, h10, hf⟩ := cl_inv hf
        refine x_cVi C (c_X12_ofWalk hN h10) mw_X12_ofWalk ln_RX12_377 mi_X12_ofWalk (hN.rc (ci := 12) sh108 rc12) (ro_of (by decide) (by decide) (by decide) (by decide)) rfl rfl (Nat.le_of_ble_eq_true rfl) (dkAt dk_X12_walkUsed 18 rfl) 37 rfl 0 0 rfl rfl ?_
        exact x_iret C E hf (by decide) (by decide) (dkAt dk_X12_walkUsed 19 rfl)
      · refine x_iconst C (v := (0 : Int32)) (by decide) (dkAt dk_X12_walkUsed 14 rfl) 29 rfl ?_
        refine x_goto C 37 (dkAt dk_X12_walkUsed 15 rfl) (by decide) ?_
        exact x_iret C E hf (by decide) (by decide) (dkAt dk_X12_walkUsed 19 rfl)
    · refine x_if_ne C 20 (dkAt dk_X12_walkUsed 7 rfl) 16 rfl (by decide) hf (fun hf => ?_) (fun hf => ?_)
      · refine x_iconst C (v := (0 : Int32)) (by decide) (dkAt dk_X12_walkUsed 10 rfl) 21 rfl ?_
        exact G.weak (L := [some (.ref (wad Γ 108)), some (.int p0)]) ⟨rfl, rfl, trivial⟩ (hj12 _ hf)
      · refine x_iconst C (v := (1 : Int32)) (by decide) (dkAt dk_X12_walkUsed 8 rfl) 17 rfl ?_
        refine x_goto C 21 (dkAt dk_X12_walkUsed 9 rfl) (by decide) ?_
        exact G.weak (L := [some (.ref (wad Γ 108)), some (.int p0)]) ⟨rfl, rfl, trivial⟩ (hj12 _ hf)
def f_X12_gainOfWalks_L43 (Z : Nat) (p0 : Int32) (k : Int32 → Mem → Option (Int32 × Mem)) : Nat → Int32 → Int32 → Mem → Option (Int32 × Mem)
  | 0, _, _, _ => none
  | n + 1, x10, x11, M12 => (if p0 ≤ x11 then k x10 M12 else cl (f_X12_walks Z M12) (fun v13 M14 => cl (f_X12_ofWalk Z M14 (-1 : Int32)) (fun v15 M16 => f_X12_gainOfWalks_L43 Z p0 k n (x10 + v15) (x11 + (1 : Int32)) M16)))
def f_X12_gainOfWalks (Z : Nat) (M : Mem) (p0 : Int32) : Option (Int32 × Mem) :=
  cl (f_X12_noChain Z M) (fun v1 M2 => (if v1 = 0 then cl (f_X12_in Z M2 p0.toInt64 (1 : Int64) (200 : Int64)) (fun v3 M4 => jn (fun (t5 : Int32) => cl (f_X12_refuse Z M4 t5 (2 : Int32)) (fun v6 M7 => (if v6 = 0 then cl (f_X12_keeps Z M7 (0 : Int32)) (fun v8 M9 => f_X12_gainOfWalks_L43 Z p0 (fun (y19 : Int32) (M20 : Mem) => cl (f_X12_fetches Z M20 (0 : Int32)) (fun v21 M22 => some (y19, M22))) Z (0 : Int32) (0 : Int32) M9) else some ((0 : Int32), M7)))) (fun j26 => (if v3 = 0 then j26 (1 : Int32) else j26 (0 : Int32)))) else some ((0 : Int32), M2)))
set_option maxRecDepth 100000 in
theorem l_X12_gainOfWalks_L43 {Γ : WC} {X : MX} (hN : HN Γ) (C : CX Γ X cX12_gainOfWalks 4 RX12 (some .int) (rmL 3 0 0)) {rM : Int32 × Mem} (E : EndN Γ X (some (.int rM.1)) rM.2 0 0) {Z : Nat} {p0 : Int32} {k : Int32 → Mem → Option (Int32 × Mem)} (hk : ∀ (a2 : Int32) (Mx : Mem), k a2 Mx = some rM → G Γ X Mx 0 0 [some (.ref (wad Γ 108)), none, some (.int a2)] [] 66) : ∀ (n : Nat) (x10 : Int32) (x11 : Int32) (M12 : Mem), f_X12_gainOfWalks_L43 Z p0 k n x10 x11 M12 = some rM → G Γ X M12 0 0 [some (.ref (wad Γ 108)), some (.int p0), some (.int x10), some (.int x11)] [] 43 := by
  intro n
  induction n with
  | zero =>
    intro x10 x11 M12 hf
    have hf0 : (none : Option _) = some rM := hf
    cases hf0
  | succ n ih =>
    intro x10 x11 M12 hf
    rw [f_X12_gainOfWalks_L43] at hf
    refine x_iload_n C rfl rfl (dkAt dk_X12_gainOfWalks 25 rfl) 44 rfl ?_
    refine x_iload_n C rfl rfl (dkAt dk_X12_gainOfWalks 26 rfl) 45 rfl ?_
    refine x_icmp_ge C 66 (dkAt dk_X12_gainOfWalks 27 rfl) 48 rfl (by decide) hf (fun hf => ?_) (fun hf => ?_)
    · exact G.weak (L := [some (.ref (wad Γ 108)), none, some (.int x10)]) ⟨rfl, rfl, trivial⟩ (hk _ _ hf)
    · refine x_aload_n C rfl rfl (dkAt dk_X12_gainOfWalks 28 rfl) 49 rfl ?_
      obtain ⟨v13, M14, h18, hf⟩ := cl_inv hf
      refine x_cVv C (c_X12_walks hN h18) mw_X12_walks ln_RX12_382 mi_X12_walks (hN.rc (ci := 12) sh108 rc12) (ro_of (by decide) (by decide) (by decide) (by decide)) rfl rfl (Nat.le_of_ble_eq_true rfl) (dkAt dk_X12_gainOfWalks 29 rfl) 52 rfl 0 0 rfl rfl ?_
      refine x_iload_n C rfl rfl (dkAt dk_X12_gainOfWalks 30 rfl) 53 rfl ?_
      refine x_aload_n C rfl rfl (dkAt dk_X12_gainOfWalks 31 rfl) 54 rfl ?_
      refine x_iconst C (v := (-1 : Int32)) (by decide) (dkAt dk_X12_gainOfWalks 32 rfl) 55 rfl ?_
      obtain ⟨v15, M16, h17, hf⟩ := cl_inv hf
      refine x_cVi C (c_X12_ofWalk hN h17) mw_X12_ofWalk ln_RX12_377 mi_X12_ofWalk (hN.rc (ci := 12) sh108 rc12) (ro_of (by decide) (by decide) (by decide) (by decide)) rfl rfl (Nat.le_of_ble_eq_true rfl) (dkAt dk_X12_gainOfWalks 33 rfl) 58 rfl 0 0 rfl rfl ?_
      refine x_iadd C (dkAt dk_X12_gainOfWalks 34 rfl) 59 rfl ?_
      refine x_istore_n C (L1 := [some (.ref (wad Γ 108)), some (.int p0), some (.int (x10 + v15)), some (.int x11)]) (dkAt dk_X12_gainOfWalks 35 rfl) 60 rfl rfl (by decide) rfl ?_
      refine x_iinc C (v := (x11 + (1 : Int32))) (L1 := [some (.ref (wad Γ 108)), some (.int p0), some (.int (x10 + v15)), some (.int (x11 + (1 : Int32)))]) (dkAt dk_X12_gainOfWalks 36 rfl) 63 rfl rfl rfl (by decide) rfl ?_
      refine x_goto C 43 (dkAt dk_X12_gainOfWalks 37 rfl) (by decide) ?_
      exact G.weak (L := [some (.ref (wad Γ 108)), some (.int p0), some (.int (x10 + v15)), some (.int (x11 + (1 : Int32)))]) ⟨rfl, rfl, rfl, rfl, trivial⟩ (ih _ _ _ hf)
set_option maxRecDepth 100000 in
theorem c_X12_gainOfWalks {Γ : WC} (hN : HN Γ) {Z : Nat} {M : Mem} {p0 : Int32} {rM : Int32 × Mem}  (hf : f_X12_gainOfWalks Z M p0 = some rM) : Ct Γ yX12_gainOfWalks cX12_gainOfWalks 4 (some .int) (rmL 3 0 0) [.ref (wad Γ 108), .int p0] M (some (.int rM.1)) rM.2 := by
  refine mkN hN.1 (own := RX12) rfl (by decide) (Nat.le_of_ble_eq_true rfl) (fun X C E => ?_)
  change G Γ X M 0 0 [some (.ref (wad Γ 108)), some (.int p0)] [] 0
  unfold f_X12_gainOfWalks at hf
  refine x_aload_n C rfl rfl (dkAt dk_X12_gainOfWalks 0 rfl) 1 rfl ?_
  obtain ⟨v1, M2, h28, hf⟩ := cl_inv hf
  refine x_cVi C (c_X12_noChain hN h28) mw_X12_noChain ln_RX12_222 mi_X12_noChain (hN.rc (ci := 12) sh108 rc12) (ro_of (by decide) (by decide) (by decide) (by decide)) rfl rfl (Nat.le_of_ble_eq_true rfl) (dkAt dk_X12_gainOfWalks 1 rfl) 4 rfl 0 0 rfl rfl ?_
  refine x_if_ne C 32 (dkAt dk_X12_gainOfWalks 2 rfl) 7 rfl (by decide) hf (fun hf => ?_) (fun hf => ?_)
  · refine x_iconst C (v := (0 : Int32)) (by decide) (dkAt dk_X12_gainOfWalks 16 rfl) 33 rfl ?_
    exact x_iret C E hf (by decide) (by decide) (dkAt dk_X12_gainOfWalks 17 rfl)
  · refine x_aload_n C rfl rfl (dkAt dk_X12_gainOfWalks 3 rfl) 8 rfl ?_
    refine x_iload_n C rfl rfl (dkAt dk_X12_gainOfWalks 4 rfl) 9 rfl ?_
    refine x_i2l C (dkAt dk_X12_gainOfWalks 5 rfl) 10 rfl ?_
    refine x_lconst C (v := (1 : Int64)) (by decide) (dkAt dk_X12_gainOfWalks 6 rfl) 11 rfl ?_
    refine x_ldc2 C (v := (200 : Int64)) cl_RX12_380 (dkAt dk_X12_gainOfWalks 7 rfl) 14 rfl ?_
    obtain ⟨v3, M4, h27, hf⟩ := cl_inv hf
    refine x_cSi C (c_X12_in hN h27) mw_X12_in ln_RX12_137 ms_X12_in (ro_of (by decide) (by decide) (by decide) (by decide)) rfl rfl (Nat.le_of_ble_eq_true rfl) (dkAt dk_X12_gainOfWalks 8 rfl) 17 rfl 0 0 rfl rfl ?_
    refine x_join hf (fun t5 => G Γ X M4 0 0 [some (.ref (wad Γ 108)), some (.int p0)] [.int t5, .ref (wad Γ 108)] 25) (fun t5 hf => ?_) (fun j26 hj26 hf => ?_)
    · refine x_iconst C (v := (2 : Int32)) (by decide) (dkAt dk_X12_gainOfWalks 13 rfl) 26 rfl ?_
      obtain ⟨v6, M7, h25, hf⟩ := cl_inv hf
      refine x_cVi C (c_X12_refuse hN h25) mw_X12_refuse ln_RX12_68 mi_X12_refuse (hN.rc (ci := 12) sh108 rc12) (ro_of (by decide) (by decide) (by decide) (by decide)) rfl rfl (Nat.le_of_ble_eq_true rfl) (dkAt dk_X12_gainOfWalks 14 rfl) 29 rfl 0 0 rfl rfl ?_
      refine x_if_eq C 34 (dkAt dk_X12_gainOfWalks 15 rfl) 32 rfl (by decide) hf (fun hf => ?_) (fun hf => ?_)
      · refine x_aload_n C rfl rfl (dkAt dk_X12_gainOfWalks 18 rfl) 35 rfl ?_
        refine x_iconst C (v := (0 : Int32)) (by decide) (dkAt dk_X12_gainOfWalks 19 rfl) 36 rfl ?_
        obtain ⟨v8, M9, h24, hf⟩ := cl_inv hf
        refine x_cVv C (c_X12_keeps hN h24) mw_X12_keeps ln_RX12_324 mi_X12_keeps (hN.rc (ci := 12) sh108 rc12) (ro_of (by decide) (by decide) (by decide) (by decide)) rfl rfl (Nat.le_of_ble_eq_true rfl) (dkAt dk_X12_gainOfWalks 20 rfl) 39 rfl 0 0 rfl rfl ?_
        refine x_iconst C (v := (0 : Int32)) (by decide) (dkAt dk_X12_gainOfWalks 21 rfl) 40 rfl ?_
        refine x_istore_n C (L1 := [some (.ref (wad Γ 108)), some (.int p0), some (.int (0 : Int32))]) (dkAt dk_X12_gainOfWalks 22 rfl) 41 rfl rfl (by decide) rfl ?_
        refine x_iconst C (v := (0 : Int32)) (by decide) (dkAt dk_X12_gainOfWalks 23 rfl) 42 rfl ?_
        refine x_istore_n C (L1 := [some (.ref (wad Γ 108)), some (.int p0), some (.int (0 : Int32)), some (.int (0 : Int32))]) (dkAt dk_X12_gainOfWalks 24 rfl) 43 rfl rfl (by decide) rfl ?_
        refine G.weak (L := [some (.ref (wad Γ 108)), some (.int p0), some (.int (0 : Int32)), some (.int (0 : Int32))]) ⟨rfl, rfl, rfl, rfl, trivial⟩ ?_
        refine l_X12_gainOfWalks_L43 hN C E ?_ Z _ _ _ hf
        intro y19 M20 hf
        refine x_aload_n C rfl rfl (dkAt dk_X12_gainOfWalks 38 rfl) 67 rfl ?_
        refine x_iconst C (v := (0 : Int32)) (by decide) (dkAt dk_X12_gainOfWalks 39 rfl) 68 rfl ?_
        obtain ⟨v21, M22, h23, hf⟩ := cl_inv hf
        refine x_cVv C (c_X12_fetches hN h23) mw_X12_fetches ln_RX12_355 mi_X12_fetches (hN.rc (ci := 12) sh108 rc12) (ro_of (by decide) (by decide) (by decide) (by decide)) rfl rfl (Nat.le_of_ble_eq_true rfl) (dkAt dk_X12_gainOfWalks 40 rfl) 71 rfl 0 0 rfl rfl ?_
        refine x_iload_n C rfl rfl (dkAt dk_X12_gainOfWalks 41 rfl) 72 rfl ?_
        exact x_iret C E hf (by decide) (by decide) (dkAt dk_X12_gainOfWalks 42 rfl)
      · refine x_iconst C (v := (0 : Int32)) (by decide) (dkAt dk_X12_gainOfWalks 16 rfl) 33 rfl ?_
        exact x_iret C E hf (by decide) (by decide) (dkAt dk_X12_gainOfWalks 17 rfl)
    · refine x_if_ne C 24 (dkAt dk_X12_gainOfWalks 9 rfl) 20 rfl (by decide) hf (fun hf => ?_) (fun hf => ?_)
      · refine x_iconst C (v := (0 : Int32)) (by decide) (dkAt dk_X12_gainOfWalks 12 rfl) 25 rfl ?_
        exact G.weak (L := [some (.ref (wad Γ 108)), some (.int p0)]) ⟨rfl, rfl, trivial⟩ (hj26 _ hf)
      · refine x_iconst C (v := (1 : Int32)) (by decide) (dkAt dk_X12_gainOfWalks 10 rfl) 21 rfl ?_
        refine x_goto C 25 (dkAt dk_X12_gainOfWalks 11 rfl) (by decide) ?_
        exact G.weak (L := [some (.ref (wad Γ 108)), some (.int p0)]) ⟨rfl, rfl, trivial⟩ (hj26 _ hf)
def f_X12_says (Z : Nat) (M : Mem) (p0 : Int32) : Option (Unit × Mem) :=
  bd (gI M (108) 31) (fun v1 => wrI M 123 200 v1 p0 (fun M2 => bd (gI M2 (108) 31) (fun v3 => bd (sI M2 (108) 31 (v3 + (1 : Int32))) (fun M4 => some ((), M4)))))
set_option maxRecDepth 100000 in
theorem c_X12_says {Γ : WC} (hN : HN Γ) {Z : Nat} {M : Mem} {p0 : Int32} {rM : Unit × Mem}  (hf : f_X12_says Z M p0 = some rM) : Ct Γ yX12_says cX12_says 2 none (rmL 0 0 0) [.ref (wad Γ 108), .int p0] M none rM.2 := by
  refine mkN hN.1 (own := RX12) rfl (by decide) (Nat.le_of_ble_eq_true rfl) (fun X C E => ?_)
  change G Γ X M 0 0 [some (.ref (wad Γ 108)), some (.int p0)] [] 0
  unfold f_X12_says at hf
  refine x_aload_n C rfl rfl (dkAt dk_X12_says 0 rfl) 1 rfl ?_
  refine x_getS C lk_RX12_58 (hN.sh sh108) (hN.sr sr108_30) (dkAt dk_X12_says 1 rfl) 4 rfl ?_
  refine x_aload_n C rfl rfl (dkAt dk_X12_says 2 rfl) 5 rfl ?_
  refine x_getI C lk_RX12_385 (hN.sh sh108) (dkAt dk_X12_says 3 rfl) 8 rfl hf (fun v1 hf => ?_)
  refine x_iload_n C rfl rfl (dkAt dk_X12_says 4 rfl) 9 rfl ?_
  refine x_iast C (hN.sh sh123) (dkAt dk_X12_says 5 rfl) 10 rfl hf (fun M2 hf => ?_)
  refine x_aload_n C rfl rfl (dkAt dk_X12_says 6 rfl) 11 rfl ?_
  refine x_dup C rfl (dkAt dk_X12_says 7 rfl) 12 rfl ?_
  refine x_getI C lk_RX12_385 (hN.sh sh108) (dkAt dk_X12_says 8 rfl) 15 rfl hf (fun v3 hf => ?_)
  refine x_iconst C (v := (1 : Int32)) (by decide) (dkAt dk_X12_says 9 rfl) 16 rfl ?_
  refine x_iadd C (dkAt dk_X12_says 10 rfl) 17 rfl ?_
  refine x_putI C pk_RX12_385 ⟨_, rfl⟩ (hN.sh sh108) (dkAt dk_X12_says 11 rfl) 20 rfl hf (fun M4 hf => ?_)
  exact x_vret C E hf (by decide) (by decide) (dkAt dk_X12_says 12 rfl)
def f_X12_saysNumber_R (Z : Nat) : Nat → Mem → Int64 → Option (Unit × Mem)
  | 0, _, _ => none
  | n + 1, M, p0 => (if p0 ≤ (9 : Int64) then nzL (10 : Int64) (cl (f_X12_says Z M ((48 : Int32) + (p0 - p0 / (10 : Int64) * (10 : Int64)).toInt32)) (fun v1 M2 => some ((), M2))) else nzL (10 : Int64) (cl (f_X12_saysNumber_R Z n M (p0 / (10 : Int64))) (fun v4 M5 => nzL (10 : Int64) (cl (f_X12_says Z M5 ((48 : Int32) + (p0 - p0 / (10 : Int64) * (10 : Int64)).toInt32)) (fun v6 M7 => some ((), M7))))))
set_option maxRecDepth 100000 in
theorem c_X12_saysNumber_R {Γ : WC} (hN : HN Γ) {Z : Nat}  : ∀ (n : Nat) (M : Mem) (p0 : Int64) (rM : Unit × Mem), f_X12_saysNumber_R Z n M p0 = some rM → Ct Γ yX12_saysNumber cX12_saysNumber 3 none (rmL n 0 0) [.ref (wad Γ 108), .long p0] M none rM.2 := by
  intro n
  induction n with
  | zero =>
    intro M p0 rM hf
    have hf0 : (none : Option _) = some rM := hf
    cases hf0
  | succ n ih =>
    intro M p0 rM hf
    refine mkN hN.1 (own := RX12) rfl (by decide) (Nat.le_of_ble_eq_true rfl) (fun X C E => ?_)
    change G Γ X M 0 0 [some (.ref (wad Γ 108)), some (.long p0), none] [] 0
    rw [f_X12_saysNumber_R] at hf
    refine x_lload_n C rfl rfl (dkAt dk_X12_saysNumber 0 rfl) 1 rfl ?_
    refine x_ldc2 C (v := (9 : Int64)) cl_RX12_388 (dkAt dk_X12_saysNumber 1 rfl) 4 rfl ?_
    refine x_lcmp_le C 17 (dkAt dk_X12_saysNumber 2 rfl) 8 rfl (dkAt dk_X12_saysNumber 3 rfl) (by decide) hf (fun hf => ?_) (fun hf => ?_)
    · refine x_aload_n C rfl rfl (dkAt dk_X12_saysNumber 9 rfl) 18 rfl ?_
      refine x_bipush C (v := (48 : Int32)) (by decide) (dkAt dk_X12_saysNumber 10 rfl) 20 rfl ?_
      refine x_lload_n C rfl rfl (dkAt dk_X12_saysNumber 11 rfl) 21 rfl ?_
      refine x_ldc2 C (v := (10 : Int64)) cl_RX12_281 (dkAt dk_X12_saysNumber 12 rfl) 24 rfl ?_
      refine x_lrem C (dkAt dk_X12_saysNumber 13 rfl) 25 rfl hf (fun hf => ?_)
      refine x_l2i C (dkAt dk_X12_saysNumber 14 rfl) 26 rfl ?_
      refine x_iadd C (dkAt dk_X12_saysNumber 15 rfl) 27 rfl ?_
      obtain ⟨v1, M2, h3, hf⟩ := cl_inv hf
      refine x_cVv C (c_X12_says hN h3) mw_X12_says ln_RX12_393 mi_X12_says (hN.rc (ci := 12) sh108 rc12) (ro_of (by omega) (by decide) (by decide) (by decide)) rfl rfl (Nat.le_of_ble_eq_true rfl) (dkAt dk_X12_saysNumber 16 rfl) 30 rfl 0 0 rfl rfl ?_
      exact x_vret C E hf (Nat.zero_le _) (Nat.zero_le _) (dkAt dk_X12_saysNumber 17 rfl)
    · refine x_aload_n C rfl rfl (dkAt dk_X12_saysNumber 4 rfl) 9 rfl ?_
      refine x_lload_n C rfl rfl (dkAt dk_X12_saysNumber 5 rfl) 10 rfl ?_
      refine x_ldc2 C (v := (10 : Int64)) cl_RX12_281 (dkAt dk_X12_saysNumber 6 rfl) 13 rfl ?_
      refine x_ldiv C (dkAt dk_X12_saysNumber 7 rfl) 14 rfl hf (fun hf => ?_)
      obtain ⟨v4, M5, h9, hf⟩ := cl_inv hf
      refine x_cVv C (ih _ _ _ h9) mw_X12_saysNumber ln_RX12_390 mi_X12_saysNumber (hN.rc (ci := 12) sh108 rc12) (ro_of (by omega) (by decide) (by decide) (by decide)) rfl rfl (Nat.le_of_ble_eq_true rfl) (dkAt dk_X12_saysNumber 8 rfl) 17 rfl 0 0 rfl rfl ?_
      refine x_aload_n C rfl rfl (dkAt dk_X12_saysNumber 9 rfl) 18 rfl ?_
      refine x_bipush C (v := (48 : Int32)) (by decide) (dkAt dk_X12_saysNumber 10 rfl) 20 rfl ?_
      refine x_lload_n C rfl rfl (dkAt dk_X12_saysNumber 11 rfl) 21 rfl ?_
      refine x_ldc2 C (v := (10 : Int64)) cl_RX12_281 (dkAt dk_X12_saysNumber 12 rfl) 24 rfl ?_
      refine x_lrem C (dkAt dk_X12_saysNumber 13 rfl) 25 rfl hf (fun hf => ?_)
      refine x_l2i C (dkAt dk_X12_saysNumber 14 rfl) 26 rfl ?_
      refine x_iadd C (dkAt dk_X12_saysNumber 15 rfl) 27 rfl ?_
      obtain ⟨v6, M7, h8, hf⟩ := cl_inv hf
      refine x_cVv C (c_X12_says hN h8) mw_X12_says ln_RX12_393 mi_X12_says (hN.rc (ci := 12) sh108 rc12) (ro_of (by omega) (by decide) (by decide) (by decide)) rfl rfl (Nat.le_of_ble_eq_true rfl) (dkAt dk_X12_saysNumber 16 rfl) 30 rfl 0 0 rfl rfl ?_
      exact x_vret C E hf (Nat.zero_le _) (Nat.zero_le _) (dkAt dk_X12_saysNumber 17 rfl)
def f_X12_saysNumber (Z : Nat) (M : Mem) (p0 : Int64) : Option (Unit × Mem) := f_X12_saysNumber_R Z 25 M p0
theorem c_X12_saysNumber {Γ : WC} (hN : HN Γ) {Z : Nat} {M : Mem} {p0 : Int64} {rM : Unit × Mem}  (hf : f_X12_saysNumber Z M p0 = some rM) : Ct Γ yX12_saysNumber cX12_saysNumber 3 none (rmL 25 0 0) [.ref (wad Γ 108), .long p0] M none rM.2 := c_X12_saysNumber_R hN 25 M p0 rM hf
def f_X12_report_L43 (Z : Nat) (p0 : Int32) (v8 : Int32) : Nat → Int32 → Mem → Option (Int32 × Mem)
  | 0, _, _ => none
  | n + 1, x11, M12 => rdI M12 112 344 (0 : Int32) (fun v13 => (if v13 ≤ x11 then bd (gI M12 (108) 31) (fun v14 => some (v14, M12)) else jn (fun (t15 : Mem) => f_X12_report_L43 Z p0 v8 n (x11 + (1 : Int32)) t15) (fun j16 => (if ((v8 >>> (x11 &&& 31)) &&& (1 : Int32)) = 0 then j16 M12 else bd (gI M12 (108) 31) (fun v17 => jn (fun (t18 : Mem) => cl (f_X12_saysNumber Z t18 x11.toInt64) (fun v19 M20 => cl (f_X12_says Z M20 (58 : Int32)) (fun v21 M22 => rdL M22 116 36 (((6 : Int32) * p0) + x11) (fun v23 => cl (f_X12_saysNumber Z M22 v23) (fun v24 M25 => j16 M25))))) (fun j29 => (if v17 ≤ 0 then j29 M12 else cl (f_X12_says Z M12 (44 : Int32)) (fun v30 M31 => j29 M31))))))))
def f_X12_report (Z : Nat) (M : Mem) (p0 : Int32) : Option (Int32 × Mem) :=
  cl (f_X12_noChain Z M) (fun v1 M2 => (if v1 = 0 then cl (f_X12_isTime Z M2 p0) (fun v3 M4 => jn (fun (t5 : Int32) => cl (f_X12_refuse Z M4 t5 (2 : Int32)) (fun v6 M7 => (if v6 = 0 then cl (f_X12_reachAt Z M7 p0) (fun v8 M9 => bd (sI M9 (108) 31 (0 : Int32)) (fun M10 => f_X12_report_L43 Z p0 v8 Z (0 : Int32) M10)) else some ((0 : Int32), M7)))) (fun j35 => (if v3 = 0 then j35 (1 : Int32) else j35 (0 : Int32)))) else some ((0 : Int32), M2)))
set_option maxRecDepth 100000 in
theorem l_X12_report_L43 {Γ : WC} {X : MX} (hN : HN Γ) (C : CX Γ X cX12_report 4 RX12 (some .int) (rmL 26 0 0)) {rM : Int32 × Mem} (E : EndN Γ X (some (.int rM.1)) rM.2 0 0) {Z : Nat} {p0 : Int32} {v8 : Int32} : ∀ (n : Nat) (x11 : Int32) (M12 : Mem), f_X12_report_L43 Z p0 v8 n x11 M12 = some rM → G Γ X M12 0 0 [some (.ref (wad Γ 108)), some (.int p0), some (.int v8), some (.int x11)] [] 43 := by
  intro n
  induction n with
  | zero =>
    intro x11 M12 hf
    have hf0 : (none : Option _) = some rM := hf
    cases hf0
  | succ n ih =>
    intro x11 M12 hf
    rw [f_X12_report_L43] at hf
    refine x_iload_n C rfl rfl (dkAt dk_X12_report 25 rfl) 44 rfl ?_
    refine x_aload_n C rfl rfl (dkAt dk_X12_report 26 rfl) 45 rfl ?_
    refine x_getS C lk_RX12_20 (hN.sh sh108) (hN.sr sr108_6) (dkAt dk_X12_report 27 rfl) 48 rfl ?_
    refine x_iconst C (v := (0 : Int32)) (by decide) (dkAt dk_X12_report 28 rfl) 49 rfl ?_
    refine x_iald C (hN.sh sh112) (dkAt dk_X12_report 29 rfl) 50 rfl hf (fun v13 hf => ?_)
    refine x_icmp_ge C 110 (dkAt dk_X12_report 30 rfl) 53 rfl (by decide) hf (fun hf => ?_) (fun hf => ?_)
    · refine x_aload_n C rfl rfl (dkAt dk_X12_report 63 rfl) 111 rfl ?_
      refine x_getI C lk_RX12_385 (hN.sh sh108) (dkAt dk_X12_report 64 rfl) 114 rfl hf (fun v14 hf => ?_)
      exact x_iret C E hf (by decide) (by decide) (dkAt dk_X12_report 65 rfl)
    · refine x_iload_n C rfl rfl (dkAt dk_X12_report 31 rfl) 54 rfl ?_
      refine x_iload_n C rfl rfl (dkAt dk_X12_report 32 rfl) 55 rfl ?_
      refine x_ishr C (dkAt dk_X12_report 33 rfl) 56 rfl ?_
      refine x_iconst C (v := (1 : Int32)) (by decide) (dkAt dk_X12_report 34 rfl) 57 rfl ?_
      refine x_iand C (dkAt dk_X12_report 35 rfl) 58 rfl ?_
      refine x_join hf (fun t15 => G Γ X t15 0 0 [some (.ref (wad Γ 108)), some (.int p0), some (.int v8), some (.int x11)] [] 104) (fun t15 hf => ?_) (fun j16 hj16 hf => ?_)
      · refine x_iinc C (v := (x11 + (1 : Int32))) (L1 := [some (.ref (wad Γ 108)), some (.int p0), some (.int v8), some (.int (x11 + (1 : Int32)))]) (dkAt dk_X12_report 61 rfl) 107 rfl rfl rfl (by decide) rfl ?_
        refine x_goto C 43 (dkAt dk_X12_report 62 rfl) (by decide) ?_
        exact G.weak (L := [some (.ref (wad Γ 108)), some (.int p0), some (.int v8), some (.int (x11 + (1 : Int32)))]) ⟨rfl, rfl, rfl, rfl, trivial⟩ (ih _ _ hf)
      · refine x_if_ne C 64 (dkAt dk_X12_report 36 rfl) 61 rfl (by decide) hf (fun hf => ?_) (fun hf => ?_)
        · refine x_aload_n C rfl rfl (dkAt dk_X12_report 38 rfl) 65 rfl ?_
          refine x_getI C lk_RX12_385 (hN.sh sh108) (dkAt dk_X12_report 39 rfl) 68 rfl hf (fun v17 hf => ?_)
          refine x_join hf (fun t18 => G Γ X t18 0 0 [some (.ref (wad Γ 108)), some (.int p0), some (.int v8), some (.int x11)] [] 77) (fun t18 hf => ?_) (fun j29 hj29 hf => ?_)
          · refine x_aload_n C rfl rfl (dkAt dk_X12_report 44 rfl) 78 rfl ?_
            refine x_iload_n C rfl rfl (dkAt dk_X12_report 45 rfl) 79 rfl ?_
            refine x_i2l C (dkAt dk_X12_report 46 rfl) 80 rfl ?_
            obtain ⟨v19, M20, h28, hf⟩ := cl_inv hf
            refine x_cVv C (c_X12_saysNumber hN h28) mw_X12_saysNumber ln_RX12_390 mi_X12_saysNumber (hN.rc (ci := 12) sh108 rc12) (ro_of (by decide) (by decide) (by decide) (by decide)) rfl rfl (Nat.le_of_ble_eq_true rfl) (dkAt dk_X12_report 47 rfl) 83 rfl 0 0 rfl rfl ?_
            refine x_aload_n C rfl rfl (dkAt dk_X12_report 48 rfl) 84 rfl ?_
            refine x_bipush C (v := (58 : Int32)) (by decide) (dkAt dk_X12_report 49 rfl) 86 rfl ?_
            obtain ⟨v21, M22, h27, hf⟩ := cl_inv hf
            refine x_cVv C (c_X12_says hN h27) mw_X12_says ln_RX12_393 mi_X12_says (hN.rc (ci := 12) sh108 rc12) (ro_of (by decide) (by decide) (by decide) (by decide)) rfl rfl (Nat.le_of_ble_eq_true rfl) (dkAt dk_X12_report 50 rfl) 89 rfl 0 0 rfl rfl ?_
            refine x_aload_n C rfl rfl (dkAt dk_X12_report 51 rfl) 90 rfl ?_
            refine x_aload_n C rfl rfl (dkAt dk_X12_report 52 rfl) 91 rfl ?_
            refine x_getS C lk_RX12_36 (hN.sh sh108) (hN.sr sr108_21) (dkAt dk_X12_report 53 rfl) 94 rfl ?_
            refine x_bipush C (v := (6 : Int32)) (by decide) (dkAt dk_X12_report 54 rfl) 96 rfl ?_
            refine x_iload_n C rfl rfl (dkAt dk_X12_report 55 rfl) 97 rfl ?_
            refine x_imul C (dkAt dk_X12_report 56 rfl) 98 rfl ?_
            refine x_iload_n C rfl rfl (dkAt dk_X12_report 57 rfl) 99 rfl ?_
            refine x_iadd C (dkAt dk_X12_report 58 rfl) 100 rfl ?_
            refine x_lald C (hN.sh sh116) (dkAt dk_X12_report 59 rfl) 101 rfl hf (fun v23 hf => ?_)
            obtain ⟨v24, M25, h26, hf⟩ := cl_inv hf
            refine x_cVv C (c_X12_saysNumber hN h26) mw_X12_saysNumber ln_RX12_390 mi_X12_saysNumber (hN.rc (ci := 12) sh108 rc12) (ro_of (by decide) (by decide) (by decide) (by decide)) rfl rfl (Nat.le_of_ble_eq_true rfl) (dkAt dk_X12_report 60 rfl) 104 rfl 0 0 rfl rfl ?_
            exact G.weak (L := [some (.ref (wad Γ 108)), some (.int p0), some (.int v8), some (.int x11)]) ⟨rfl, rfl, rfl, rfl, trivial⟩ (hj16 _ hf)
          · refine x_if_le C 77 (dkAt dk_X12_report 40 rfl) 71 rfl (by decide) hf (fun hf => ?_) (fun hf => ?_)
            · exact G.weak (L := [some (.ref (wad Γ 108)), some (.int p0), some (.int v8), some (.int x11)]) ⟨rfl, rfl, rfl, rfl, trivial⟩ (hj29 _ hf)
            · refine x_aload_n C rfl rfl (dkAt dk_X12_report 41 rfl) 72 rfl ?_
              refine x_bipush C (v := (44 : Int32)) (by decide) (dkAt dk_X12_report 42 rfl) 74 rfl ?_
              obtain ⟨v30, M31, h32, hf⟩ := cl_inv hf
              refine x_cVv C (c_X12_says hN h32) mw_X12_says ln_RX12_393 mi_X12_says (hN.rc (ci := 12) sh108 rc12) (ro_of (by decide) (by decide) (by decide) (by decide)) rfl rfl (Nat.le_of_ble_eq_true rfl) (dkAt dk_X12_report 43 rfl) 77 rfl 0 0 rfl rfl ?_
              exact G.weak (L := [some (.ref (wad Γ 108)), some (.int p0), some (.int v8), some (.int x11)]) ⟨rfl, rfl, rfl, rfl, trivial⟩ (hj29 _ hf)
        · refine x_goto C 104 (dkAt dk_X12_report 37 rfl) (by decide) ?_
          exact G.weak (L := [some (.ref (wad Γ 108)), some (.int p0), some (.int v8), some (.int x11)]) ⟨rfl, rfl, rfl, rfl, trivial⟩ (hj16 _ hf)
set_option maxRecDepth 100000 in
theorem c_X12_report {Γ : WC} (hN : HN Γ) {Z : Nat} {M : Mem} {p0 : Int32} {rM : Int32 × Mem}  (hf : f_X12_report Z M p0 = some rM) : Ct Γ yX12_report cX12_report 4 (some .int) (rmL 26 0 0) [.ref (wad Γ 108), .int p0] M (some (.int rM.1)) rM.2 := by
  refine mkN hN.1 (own := RX12) rfl (by decide) (Nat.le_of_ble_eq_true rfl) (fun X C E => ?_)
  change G Γ X M 0 0 [some (.ref (wad Γ 108)), some (.int p0)] [] 0
  unfold f_X12_report at hf
  refine x_aload_n C rfl rfl (dkAt dk_X12_report 0 rfl) 1 rfl ?_
  obtain ⟨v1, M2, h37, hf⟩ := cl_inv hf
  refine x_cVi C (c_X12_noChain hN h37) mw_X12_noChain ln_RX12_222 mi_X12_noChain (hN.rc (ci := 12) sh108 rc12) (ro_of (by decide) (by decide) (by decide) (by decide)) rfl rfl (Nat.le_of_ble_eq_true rfl) (dkAt dk_X12_report 1 rfl) 4 rfl 0 0 rfl rfl ?_
  refine x_if_ne C 28 (dkAt dk_X12_report 2 rfl) 7 rfl (by decide) hf (fun hf => ?_) (fun hf => ?_)
  · refine x_iconst C (v := (0 : Int32)) (by decide) (dkAt dk_X12_report 14 rfl) 29 rfl ?_
    exact x_iret C E hf (by decide) (by decide) (dkAt dk_X12_report 15 rfl)
  · refine x_aload_n C rfl rfl (dkAt dk_X12_report 3 rfl) 8 rfl ?_
    refine x_aload_n C rfl rfl (dkAt dk_X12_report 4 rfl) 9 rfl ?_
    refine x_iload_n C rfl rfl (dkAt dk_X12_report 5 rfl) 10 rfl ?_
    obtain ⟨v3, M4, h36, hf⟩ := cl_inv hf
    refine x_cVi C (c_X12_isTime hN h36) mw_X12_isTime ln_RX12_267 mi_X12_isTime (hN.rc (ci := 12) sh108 rc12) (ro_of (by decide) (by decide) (by decide) (by decide)) rfl rfl (Nat.le_of_ble_eq_true rfl) (dkAt dk_X12_report 6 rfl) 13 rfl 0 0 rfl rfl ?_
    refine x_join hf (fun t5 => G Γ X M4 0 0 [some (.ref (wad Γ 108)), some (.int p0)] [.int t5, .ref (wad Γ 108)] 21) (fun t5 hf => ?_) (fun j35 hj35 hf => ?_)
    · refine x_iconst C (v := (2 : Int32)) (by decide) (dkAt dk_X12_report 11 rfl) 22 rfl ?_
      obtain ⟨v6, M7, h34, hf⟩ := cl_inv hf
      refine x_cVi C (c_X12_refuse hN h34) mw_X12_refuse ln_RX12_68 mi_X12_refuse (hN.rc (ci := 12) sh108 rc12) (ro_of (by decide) (by decide) (by decide) (by decide)) rfl rfl (Nat.le_of_ble_eq_true rfl) (dkAt dk_X12_report 12 rfl) 25 rfl 0 0 rfl rfl ?_
      refine x_if_eq C 30 (dkAt dk_X12_report 13 rfl) 28 rfl (by decide) hf (fun hf => ?_) (fun hf => ?_)
      · refine x_aload_n C rfl rfl (dkAt dk_X12_report 16 rfl) 31 rfl ?_
        refine x_iload_n C rfl rfl (dkAt dk_X12_report 17 rfl) 32 rfl ?_
        obtain ⟨v8, M9, h33, hf⟩ := cl_inv hf
        refine x_cVi C (c_X12_reachAt hN h33) mw_X12_reachAt ln_RX12_270 mi_X12_reachAt (hN.rc (ci := 12) sh108 rc12) (ro_of (by decide) (by decide) (by decide) (by decide)) rfl rfl (Nat.le_of_ble_eq_true rfl) (dkAt dk_X12_report 18 rfl) 35 rfl 0 0 rfl rfl ?_
        refine x_istore_n C (L1 := [some (.ref (wad Γ 108)), some (.int p0), some (.int v8)]) (dkAt dk_X12_report 19 rfl) 36 rfl rfl (by decide) rfl ?_
        refine x_aload_n C rfl rfl (dkAt dk_X12_report 20 rfl) 37 rfl ?_
        refine x_iconst C (v := (0 : Int32)) (by decide) (dkAt dk_X12_report 21 rfl) 38 rfl ?_
        refine x_putI C pk_RX12_385 ⟨_, rfl⟩ (hN.sh sh108) (dkAt dk_X12_report 22 rfl) 41 rfl hf (fun M10 hf => ?_)
        refine x_iconst C (v := (0 : Int32)) (by decide) (dkAt dk_X12_report 23 rfl) 42 rfl ?_
        refine x_istore_n C (L1 := [some (.ref (wad Γ 108)), some (.int p0), some (.int v8), some (.int (0 : Int32))]) (dkAt dk_X12_report 24 rfl) 43 rfl rfl (by decide) rfl ?_
        refine G.weak (L := [some (.ref (wad Γ 108)), some (.int p0), some (.int v8), some (.int (0 : Int32))]) ⟨rfl, rfl, rfl, rfl, trivial⟩ ?_
        refine l_X12_report_L43 hN C E Z _ _ hf
      · refine x_iconst C (v := (0 : Int32)) (by decide) (dkAt dk_X12_report 14 rfl) 29 rfl ?_
        exact x_iret C E hf (by decide) (by decide) (dkAt dk_X12_report 15 rfl)
    · refine x_if_ne C 20 (dkAt dk_X12_report 7 rfl) 16 rfl (by decide) hf (fun hf => ?_) (fun hf => ?_)
      · refine x_iconst C (v := (0 : Int32)) (by decide) (dkAt dk_X12_report 10 rfl) 21 rfl ?_
        exact G.weak (L := [some (.ref (wad Γ 108)), some (.int p0)]) ⟨rfl, rfl, trivial⟩ (hj35 _ hf)
      · refine x_iconst C (v := (1 : Int32)) (by decide) (dkAt dk_X12_report 8 rfl) 17 rfl ?_
        refine x_goto C 21 (dkAt dk_X12_report 9 rfl) (by decide) ?_
        exact G.weak (L := [some (.ref (wad Γ 108)), some (.int p0)]) ⟨rfl, rfl, trivial⟩ (hj35 _ hf)
def f_X12_reportByte (Z : Nat) (M : Mem) (p0 : Int32) : Option (Int32 × Mem) :=
  bd (sI M (108) 0 (0 : Int32)) (fun M1 => bd (gI M1 (108) 31) (fun v2 => cl (f_X12_in Z M1 p0.toInt64 (0 : Int64) ((v2 - (1 : Int32)).toInt64)) (fun v3 M4 => jn (fun (t5 : Int32) => cl (f_X12_refuse Z M4 t5 (1 : Int32)) (fun v6 M7 => (if v6 = 0 then rdI M7 123 200 p0 (fun v8 => some (v8, M7)) else some ((0 : Int32), M7)))) (fun j10 => (if v3 = 0 then j10 (1 : Int32) else j10 (0 : Int32))))))
set_option maxRecDepth 100000 in
theorem c_X12_reportByte {Γ : WC} (hN : HN Γ) {Z : Nat} {M : Mem} {p0 : Int32} {rM : Int32 × Mem}  (hf : f_X12_reportByte Z M p0 = some rM) : Ct Γ yX12_reportByte cX12_reportByte 2 (some .int) (rmL 1 0 0) [.ref (wad Γ 108), .int p0] M (some (.int rM.1)) rM.2 := by
  refine mkN hN.1 (own := RX12) rfl (by decide) (Nat.le_of_ble_eq_true rfl) (fun X C E => ?_)
  change G Γ X M 0 0 [some (.ref (wad Γ 108)), some (.int p0)] [] 0
  unfold f_X12_reportByte at hf
  refine x_aload_n C rfl rfl (dkAt dk_X12_reportByte 0 rfl) 1 rfl ?_
  refine x_iconst C (v := (0 : Int32)) (by decide) (dkAt dk_X12_reportByte 1 rfl) 2 rfl ?_
  refine x_putI C pk_RX12_61 ⟨_, rfl⟩ (hN.sh sh108) (dkAt dk_X12_reportByte 2 rfl) 5 rfl hf (fun M1 hf => ?_)
  refine x_aload_n C rfl rfl (dkAt dk_X12_reportByte 3 rfl) 6 rfl ?_
  refine x_iload_n C rfl rfl (dkAt dk_X12_reportByte 4 rfl) 7 rfl ?_
  refine x_i2l C (dkAt dk_X12_reportByte 5 rfl) 8 rfl ?_
  refine x_lconst C (v := (0 : Int64)) (by decide) (dkAt dk_X12_reportByte 6 rfl) 9 rfl ?_
  refine x_aload_n C rfl rfl (dkAt dk_X12_reportByte 7 rfl) 10 rfl ?_
  refine x_getI C lk_RX12_385 (hN.sh sh108) (dkAt dk_X12_reportByte 8 rfl) 13 rfl hf (fun v2 hf => ?_)
  refine x_iconst C (v := (1 : Int32)) (by decide) (dkAt dk_X12_reportByte 9 rfl) 14 rfl ?_
  refine x_isub C (dkAt dk_X12_reportByte 10 rfl) 15 rfl ?_
  refine x_i2l C (dkAt dk_X12_reportByte 11 rfl) 16 rfl ?_
  obtain ⟨v3, M4, h11, hf⟩ := cl_inv hf
  refine x_cSi C (c_X12_in hN h11) mw_X12_in ln_RX12_137 ms_X12_in (ro_of (by decide) (by decide) (by decide) (by decide)) rfl rfl (Nat.le_of_ble_eq_true rfl) (dkAt dk_X12_reportByte 12 rfl) 19 rfl 0 0 rfl rfl ?_
  refine x_join hf (fun t5 => G Γ X M4 0 0 [some (.ref (wad Γ 108)), some (.int p0)] [.int t5, .ref (wad Γ 108)] 27) (fun t5 hf => ?_) (fun j10 hj10 hf => ?_)
  · refine x_iconst C (v := (1 : Int32)) (by decide) (dkAt dk_X12_reportByte 17 rfl) 28 rfl ?_
    obtain ⟨v6, M7, h9, hf⟩ := cl_inv hf
    refine x_cVi C (c_X12_refuse hN h9) mw_X12_refuse ln_RX12_68 mi_X12_refuse (hN.rc (ci := 12) sh108 rc12) (ro_of (by decide) (by decide) (by decide) (by decide)) rfl rfl (Nat.le_of_ble_eq_true rfl) (dkAt dk_X12_reportByte 18 rfl) 31 rfl 0 0 rfl rfl ?_
    refine x_if_eq C 38 (dkAt dk_X12_reportByte 19 rfl) 34 rfl (by decide) hf (fun hf => ?_) (fun hf => ?_)
    · refine x_aload_n C rfl rfl (dkAt dk_X12_reportByte 22 rfl) 39 rfl ?_
      refine x_getS C lk_RX12_58 (hN.sh sh108) (hN.sr sr108_30) (dkAt dk_X12_reportByte 23 rfl) 42 rfl ?_
      refine x_iload_n C rfl rfl (dkAt dk_X12_reportByte 24 rfl) 43 rfl ?_
      refine x_iald C (hN.sh sh123) (dkAt dk_X12_reportByte 25 rfl) 44 rfl hf (fun v8 hf => ?_)
      exact x_iret C E hf (by decide) (by decide) (dkAt dk_X12_reportByte 26 rfl)
    · refine x_iconst C (v := (0 : Int32)) (by decide) (dkAt dk_X12_reportByte 20 rfl) 35 rfl ?_
      refine x_goto C 44 (dkAt dk_X12_reportByte 21 rfl) (by decide) ?_
      exact x_iret C E hf (by decide) (by decide) (dkAt dk_X12_reportByte 26 rfl)
  · refine x_if_ne C 26 (dkAt dk_X12_reportByte 13 rfl) 22 rfl (by decide) hf (fun hf => ?_) (fun hf => ?_)
    · refine x_iconst C (v := (0 : Int32)) (by decide) (dkAt dk_X12_reportByte 16 rfl) 27 rfl ?_
      exact G.weak (L := [some (.ref (wad Γ 108)), some (.int p0)]) ⟨rfl, rfl, trivial⟩ (hj10 _ hf)
    · refine x_iconst C (v := (1 : Int32)) (by decide) (dkAt dk_X12_reportByte 14 rfl) 23 rfl ?_
      refine x_goto C 27 (dkAt dk_X12_reportByte 15 rfl) (by decide) ?_
      exact G.weak (L := [some (.ref (wad Γ 108)), some (.int p0)]) ⟨rfl, rfl, trivial⟩ (hj10 _ hf)
def f_X12_keepsAll_L12 (Z : Nat) (k : Mem → Option (Unit × Mem)) : Nat → Int32 → Mem → Option (Unit × Mem)
  | 0, _, _ => none
  | n + 1, x10, M11 => (if (378 : Int32) ≤ x10 then k M11 else rdI M11 110 540 (x10 + (54 : Int32)) (fun v12 => wrI M11 110 540 x10 v12 (fun M13 => f_X12_keepsAll_L12 Z k n (x10 + (1 : Int32)) M13)))
def f_X12_keepsAll (Z : Nat) (M : Mem)  : Option (Unit × Mem) :=
  bd (gI M (108) 4) (fun v1 => jn (fun (t2 : Mem) => bd (gI t2 (108) 4) (fun v3 => cl (f_X12_keeps Z t2 ((1 : Int32) + v3)) (fun v4 M5 => bd (gI M5 (108) 4) (fun v6 => bd (sI M5 (108) 4 (v6 + (1 : Int32))) (fun M7 => some ((), M7)))))) (fun j9 => (if v1 = (7 : Int32) then f_X12_keepsAll_L12 Z (fun (M14 : Mem) => bd (gI M14 (108) 4) (fun v15 => bd (sI M14 (108) 4 (v15 - (1 : Int32))) (fun M16 => j9 M16))) Z (54 : Int32) M else j9 M)))
set_option maxRecDepth 100000 in
theorem l_X12_keepsAll_L12 {Γ : WC} {X : MX} (hN : HN Γ) (C : CX Γ X cX12_keepsAll 2 RX12 none (rmL 1 0 0)) {rM : Unit × Mem} (E : EndN Γ X none rM.2 0 0) {Z : Nat} {k : Mem → Option (Unit × Mem)} (hk : ∀  (Mx : Mem), k Mx = some rM → G Γ X Mx 0 0 [some (.ref (wad Γ 108))] [] 40) : ∀ (n : Nat) (x10 : Int32) (M11 : Mem), f_X12_keepsAll_L12 Z k n x10 M11 = some rM → G Γ X M11 0 0 [some (.ref (wad Γ 108)), some (.int x10)] [] 12 := by
  intro n
  induction n with
  | zero =>
    intro x10 M11 hf
    have hf0 : (none : Option _) = some rM := hf
    cases hf0
  | succ n ih =>
    intro x10 M11 hf
    rw [f_X12_keepsAll_L12] at hf
    refine x_iload_n C rfl rfl (dkAt dk_X12_keepsAll 6 rfl) 13 rfl ?_
    refine x_sipush C (v := (378 : Int32)) (by decide) (dkAt dk_X12_keepsAll 7 rfl) 16 rfl ?_
    refine x_icmp_ge C 40 (dkAt dk_X12_keepsAll 8 rfl) 19 rfl (by decide) hf (fun hf => ?_) (fun hf => ?_)
    · exact G.weak (L := [some (.ref (wad Γ 108))]) ⟨rfl, trivial⟩ (hk _ hf)
    · refine x_aload_n C rfl rfl (dkAt dk_X12_keepsAll 9 rfl) 20 rfl ?_
      refine x_getS C lk_RX12_13 (hN.sh sh108) (hN.sr sr108_3) (dkAt dk_X12_keepsAll 10 rfl) 23 rfl ?_
      refine x_iload_n C rfl rfl (dkAt dk_X12_keepsAll 11 rfl) 24 rfl ?_
      refine x_aload_n C rfl rfl (dkAt dk_X12_keepsAll 12 rfl) 25 rfl ?_
      refine x_getS C lk_RX12_13 (hN.sh sh108) (hN.sr sr108_3) (dkAt dk_X12_keepsAll 13 rfl) 28 rfl ?_
      refine x_iload_n C rfl rfl (dkAt dk_X12_keepsAll 14 rfl) 29 rfl ?_
      refine x_bipush C (v := (54 : Int32)) (by decide) (dkAt dk_X12_keepsAll 15 rfl) 31 rfl ?_
      refine x_iadd C (dkAt dk_X12_keepsAll 16 rfl) 32 rfl ?_
      refine x_iald C (hN.sh sh110) (dkAt dk_X12_keepsAll 17 rfl) 33 rfl hf (fun v12 hf => ?_)
      refine x_iast C (hN.sh sh110) (dkAt dk_X12_keepsAll 18 rfl) 34 rfl hf (fun M13 hf => ?_)
      refine x_iinc C (v := (x10 + (1 : Int32))) (L1 := [some (.ref (wad Γ 108)), some (.int (x10 + (1 : Int32)))]) (dkAt dk_X12_keepsAll 19 rfl) 37 rfl rfl rfl (by decide) rfl ?_
      refine x_goto C 12 (dkAt dk_X12_keepsAll 20 rfl) (by decide) ?_
      exact G.weak (L := [some (.ref (wad Γ 108)), some (.int (x10 + (1 : Int32)))]) ⟨rfl, rfl, trivial⟩ (ih _ _ hf)
set_option maxRecDepth 100000 in
theorem c_X12_keepsAll {Γ : WC} (hN : HN Γ) {Z : Nat} {M : Mem}  {rM : Unit × Mem}  (hf : f_X12_keepsAll Z M  = some rM) : Ct Γ yX12_keepsAll cX12_keepsAll 2 none (rmL 1 0 0) [.ref (wad Γ 108)] M none rM.2 := by
  refine mkN hN.1 (own := RX12) rfl (by decide) (Nat.le_of_ble_eq_true rfl) (fun X C E => ?_)
  change G Γ X M 0 0 [some (.ref (wad Γ 108))] [] 0
  unfold f_X12_keepsAll at hf
  refine x_aload_n C rfl rfl (dkAt dk_X12_keepsAll 0 rfl) 1 rfl ?_
  refine x_getI C lk_RX12_213 (hN.sh sh108) (dkAt dk_X12_keepsAll 1 rfl) 4 rfl hf (fun v1 hf => ?_)
  refine x_bipush C (v := (7 : Int32)) (by decide) (dkAt dk_X12_keepsAll 2 rfl) 6 rfl ?_
  refine x_join hf (fun t2 => G Γ X t2 0 0 [some (.ref (wad Γ 108))] [] 50) (fun t2 hf => ?_) (fun j9 hj9 hf => ?_)
  · refine x_aload_n C rfl rfl (dkAt dk_X12_keepsAll 27 rfl) 51 rfl ?_
    refine x_iconst C (v := (1 : Int32)) (by decide) (dkAt dk_X12_keepsAll 28 rfl) 52 rfl ?_
    refine x_aload_n C rfl rfl (dkAt dk_X12_keepsAll 29 rfl) 53 rfl ?_
    refine x_getI C lk_RX12_213 (hN.sh sh108) (dkAt dk_X12_keepsAll 30 rfl) 56 rfl hf (fun v3 hf => ?_)
    refine x_iadd C (dkAt dk_X12_keepsAll 31 rfl) 57 rfl ?_
    obtain ⟨v4, M5, h8, hf⟩ := cl_inv hf
    refine x_cVv C (c_X12_keeps hN h8) mw_X12_keeps ln_RX12_324 mi_X12_keeps (hN.rc (ci := 12) sh108 rc12) (ro_of (by decide) (by decide) (by decide) (by decide)) rfl rfl (Nat.le_of_ble_eq_true rfl) (dkAt dk_X12_keepsAll 32 rfl) 60 rfl 0 0 rfl rfl ?_
    refine x_aload_n C rfl rfl (dkAt dk_X12_keepsAll 33 rfl) 61 rfl ?_
    refine x_dup C rfl (dkAt dk_X12_keepsAll 34 rfl) 62 rfl ?_
    refine x_getI C lk_RX12_213 (hN.sh sh108) (dkAt dk_X12_keepsAll 35 rfl) 65 rfl hf (fun v6 hf => ?_)
    refine x_iconst C (v := (1 : Int32)) (by decide) (dkAt dk_X12_keepsAll 36 rfl) 66 rfl ?_
    refine x_iadd C (dkAt dk_X12_keepsAll 37 rfl) 67 rfl ?_
    refine x_putI C pk_RX12_213 ⟨_, rfl⟩ (hN.sh sh108) (dkAt dk_X12_keepsAll 38 rfl) 70 rfl hf (fun M7 hf => ?_)
    exact x_vret C E hf (by decide) (by decide) (dkAt dk_X12_keepsAll 39 rfl)
  · refine x_icmp_ne C 50 (dkAt dk_X12_keepsAll 3 rfl) 9 rfl (by decide) hf (fun hf => ?_) (fun hf => ?_)
    · exact G.weak (L := [some (.ref (wad Γ 108))]) ⟨rfl, trivial⟩ (hj9 _ hf)
    · refine x_bipush C (v := (54 : Int32)) (by decide) (dkAt dk_X12_keepsAll 4 rfl) 11 rfl ?_
      refine x_istore_n C (L1 := [some (.ref (wad Γ 108)), some (.int (54 : Int32))]) (dkAt dk_X12_keepsAll 5 rfl) 12 rfl rfl (by decide) rfl ?_
      refine G.weak (L := [some (.ref (wad Γ 108)), some (.int (54 : Int32))]) ⟨rfl, rfl, trivial⟩ ?_
      refine l_X12_keepsAll_L12 hN C E ?_ Z _ _ hf
      intro M14 hf
      refine x_aload_n C rfl rfl (dkAt dk_X12_keepsAll 21 rfl) 41 rfl ?_
      refine x_dup C rfl (dkAt dk_X12_keepsAll 22 rfl) 42 rfl ?_
      refine x_getI C lk_RX12_213 (hN.sh sh108) (dkAt dk_X12_keepsAll 23 rfl) 45 rfl hf (fun v15 hf => ?_)
      refine x_iconst C (v := (1 : Int32)) (by decide) (dkAt dk_X12_keepsAll 24 rfl) 46 rfl ?_
      refine x_isub C (dkAt dk_X12_keepsAll 25 rfl) 47 rfl ?_
      refine x_putI C pk_RX12_213 ⟨_, rfl⟩ (hN.sh sh108) (dkAt dk_X12_keepsAll 26 rfl) 50 rfl hf (fun M16 hf => ?_)
      exact G.weak (L := [some (.ref (wad Γ 108))]) ⟨rfl, trivial⟩ (hj9 _ hf)
def f_X12_isWeight (Z : Nat) (M : Mem) (p0 : Int32) (p1 : Int32) : Option (Int32 × Mem) :=
  (if p1 = 0 then (if p0 = 0 then some ((1 : Int32), M) else some ((0 : Int32), M)) else cl (f_X12_in Z M p0.toInt64 (0 : Int64) (10 : Int64)) (fun v1 M2 => (if v1 &&& 1 = v1 then some (v1, M2) else none)))
set_option maxRecDepth 100000 in
theorem c_X12_isWeight {Γ : WC} (hN : HN Γ) {Z : Nat} {M : Mem} {p0 : Int32} {p1 : Int32} {rM : Int32 × Mem}  (hf : f_X12_isWeight Z M p0 p1 = some rM) : Ct Γ yX12_isWeight cX12_isWeight 2 (some .boolean) (rmL 1 0 0) [.int p0, .int p1] M (some (.int rM.1)) rM.2 := by
  refine mkN hN.1 (own := RX12) rfl (by decide) (Nat.le_of_ble_eq_true rfl) (fun X C E => ?_)
  change G Γ X M 0 0 [some (.int p0), some (.int p1)] [] 0
  unfold f_X12_isWeight at hf
  refine x_iload_n C rfl rfl (dkAt dk_X12_isWeight 0 rfl) 1 rfl ?_
  refine x_if_eq C 16 (dkAt dk_X12_isWeight 1 rfl) 4 rfl (by decide) hf (fun hf => ?_) (fun hf => ?_)
  · refine x_iload_n C rfl rfl (dkAt dk_X12_isWeight 8 rfl) 17 rfl ?_
    refine x_if_ne C 24 (dkAt dk_X12_isWeight 9 rfl) 20 rfl (by decide) hf (fun hf => ?_) (fun hf => ?_)
    · refine x_iconst C (v := (0 : Int32)) (by decide) (dkAt dk_X12_isWeight 12 rfl) 25 rfl ?_
      exact x_zret C E (by decide) hf (by decide) (by decide) (dkAt dk_X12_isWeight 13 rfl)
    · refine x_iconst C (v := (1 : Int32)) (by decide) (dkAt dk_X12_isWeight 10 rfl) 21 rfl ?_
      refine x_goto C 25 (dkAt dk_X12_isWeight 11 rfl) (by decide) ?_
      exact x_zret C E (by decide) hf (by decide) (by decide) (dkAt dk_X12_isWeight 13 rfl)
  · refine x_iload_n C rfl rfl (dkAt dk_X12_isWeight 2 rfl) 5 rfl ?_
    refine x_i2l C (dkAt dk_X12_isWeight 3 rfl) 6 rfl ?_
    refine x_lconst C (v := (0 : Int64)) (by decide) (dkAt dk_X12_isWeight 4 rfl) 7 rfl ?_
    refine x_ldc2 C (v := (10 : Int64)) cl_RX12_281 (dkAt dk_X12_isWeight 5 rfl) 10 rfl ?_
    obtain ⟨v1, M2, h3, hf⟩ := cl_inv hf
    refine x_cSi C (c_X12_in hN h3) mw_X12_in ln_RX12_137 ms_X12_in (ro_of (by decide) (by decide) (by decide) (by decide)) rfl rfl (Nat.le_of_ble_eq_true rfl) (dkAt dk_X12_isWeight 6 rfl) 13 rfl 0 0 rfl rfl ?_
    refine x_goto C 25 (dkAt dk_X12_isWeight 7 rfl) (by decide) ?_
    obtain ⟨hz, hf⟩ := if_some hf
    exact x_zret C E hz hf (by decide) (by decide) (dkAt dk_X12_isWeight 13 rfl)
def f_X12_setRule (Z : Nat) (M : Mem) (p0 : Int32) (p1 : Int32) (p2 : Int32) (p3 : Int32) : Option (Int32 × Mem) :=
  cl (f_X12_noState Z M p0) (fun v1 M2 => (if v1 = 0 then cl (f_X12_isWeight Z M2 p1 (1 : Int32)) (fun v3 M4 => jn (fun (t5 : Int32 × Mem) => jn (fun (t6 : Int32) => cl (f_X12_refuse Z t5.2 t6 (3 : Int32)) (fun v7 M8 => (if v7 = 0 then cl (f_X12_keepsAll Z M8) (fun v9 M10 => wrI M10 109 54 ((4 : Int32) + ((3 : Int32) * p0)) p1 (fun M11 => wrI M11 109 54 (((4 : Int32) + ((3 : Int32) * p0)) + (1 : Int32)) p2 (fun M12 => wrI M12 109 54 (((4 : Int32) + ((3 : Int32) * p0)) + (2 : Int32)) p3 (fun M13 => cl (f_X12_brokenNow Z M13) (fun v14 M15 => some (v14, M15)))))) else some ((0 : Int32), M8)))) (fun j19 => jn (fun (t20 : Unit) => j19 (1 : Int32)) (fun j21 => (if t5.1 = 0 then j21 () else (if ((p1 + p2) + p3) = (10 : Int32) then j19 (0 : Int32) else j21 ()))))) (fun j22 => jn (fun (t23 : Mem) => j22 ((0 : Int32), t23)) (fun j24 => (if v3 = 0 then j24 M4 else rdI M4 112 344 ((8 : Int32) + p0) (fun v25 => jn (fun (t26 : Int32) => cl (f_X12_isWeight Z M4 p2 t26) (fun v27 M28 => (if v27 = 0 then j24 M28 else rdI M28 112 344 ((8 : Int32) + p0) (fun v29 => jn (fun (t30 : Int32) => cl (f_X12_isWeight Z M28 p3 t30) (fun v31 M32 => (if v31 = 0 then j24 M32 else j22 ((1 : Int32), M32)))) (fun j34 => (if v29 ≤ (2 : Int32) then j34 (0 : Int32) else j34 (1 : Int32))))))) (fun j36 => (if v25 ≤ (1 : Int32) then j36 (0 : Int32) else j36 (1 : Int32)))))))) else some ((0 : Int32), M2)))
set_option maxRecDepth 100000 in
theorem c_X12_setRule {Γ : WC} (hN : HN Γ) {Z : Nat} {M : Mem} {p0 : Int32} {p1 : Int32} {p2 : Int32} {p3 : Int32} {rM : Int32 × Mem}  (hf : f_X12_setRule Z M p0 p1 p2 p3 = some rM) : Ct Γ yX12_setRule cX12_setRule 6 (some .int) (rmL 6 0 0) [.ref (wad Γ 108), .int p0, .int p1, .int p2, .int p3] M (some (.int rM.1)) rM.2 := by
  refine mkN hN.1 (own := RX12) rfl (by decide) (Nat.le_of_ble_eq_true rfl) (fun X C E => ?_)
  change G Γ X M 0 0 [some (.ref (wad Γ 108)), some (.int p0), some (.int p1), some (.int p2), some (.int p3)] [] 0
  unfold f_X12_setRule at hf
  refine x_aload_n C rfl rfl (dkAt dk_X12_setRule 0 rfl) 1 rfl ?_
  refine x_iload_n C rfl rfl (dkAt dk_X12_setRule 1 rfl) 2 rfl ?_
  obtain ⟨v1, M2, h38, hf⟩ := cl_inv hf
  refine x_cVi C (c_X12_noState hN h38) mw_X12_noState ln_RX12_236 mi_X12_noState (hN.rc (ci := 12) sh108 rc12) (ro_of (by decide) (by decide) (by decide) (by decide)) rfl rfl (Nat.le_of_ble_eq_true rfl) (dkAt dk_X12_setRule 2 rfl) 5 rfl 0 0 rfl rfl ?_
  refine x_if_eq C 10 (dkAt dk_X12_setRule 3 rfl) 8 rfl (by decide) hf (fun hf => ?_) (fun hf => ?_)
  · refine x_iload_n C rfl rfl (dkAt dk_X12_setRule 6 rfl) 11 rfl ?_
    refine x_iconst C (v := (1 : Int32)) (by decide) (dkAt dk_X12_setRule 7 rfl) 12 rfl ?_
    obtain ⟨v3, M4, h37, hf⟩ := cl_inv hf
    refine x_cSi C (c_X12_isWeight hN h37) mw_X12_isWeight ln_RX12_396 ms_X12_isWeight (ro_of (by decide) (by decide) (by decide) (by decide)) rfl rfl (Nat.le_of_ble_eq_true rfl) (dkAt dk_X12_setRule 8 rfl) 15 rfl 0 0 rfl rfl ?_
    refine x_join hf (fun t5 => G Γ X t5.2 0 0 [some (.ref (wad Γ 108)), some (.int p0), some (.int p1), some (.int p2), some (.int p3)] [.int t5.1] 74) (fun t5 hf => ?_) (fun j22 hj22 hf => ?_)
    · refine x_istore C (L1 := [some (.ref (wad Γ 108)), some (.int p0), some (.int p1), some (.int p2), some (.int p3), some (.int t5.1)]) (dkAt dk_X12_setRule 41 rfl) 76 rfl (by decide) rfl ?_
      refine x_aload_n C rfl rfl (dkAt dk_X12_setRule 42 rfl) 77 rfl ?_
      refine x_iload C rfl (dkAt dk_X12_setRule 43 rfl) 79 rfl ?_
      refine x_join hf (fun t6 => G Γ X t5.2 0 0 [some (.ref (wad Γ 108)), some (.int p0), some (.int p1), some (.int p2), some (.int p3)] [.int t6, .ref (wad Γ 108)] 98) (fun t6 hf => ?_) (fun j19 hj19 hf => ?_)
      · refine x_iconst C (v := (3 : Int32)) (by decide) (dkAt dk_X12_setRule 55 rfl) 99 rfl ?_
        obtain ⟨v7, M8, h18, hf⟩ := cl_inv hf
        refine x_cVi C (c_X12_refuse hN h18) mw_X12_refuse ln_RX12_68 mi_X12_refuse (hN.rc (ci := 12) sh108 rc12) (ro_of (by decide) (by decide) (by decide) (by decide)) rfl rfl (Nat.le_of_ble_eq_true rfl) (dkAt dk_X12_setRule 56 rfl) 102 rfl 0 0 rfl rfl ?_
        refine x_if_eq C 107 (dkAt dk_X12_setRule 57 rfl) 105 rfl (by decide) hf (fun hf => ?_) (fun hf => ?_)
        · refine x_aload_n C rfl rfl (dkAt dk_X12_setRule 60 rfl) 108 rfl ?_
          obtain ⟨v9, M10, h17, hf⟩ := cl_inv hf
          refine x_cVv C (c_X12_keepsAll hN h17) mw_X12_keepsAll ln_RX12_400 mi_X12_keepsAll (hN.rc (ci := 12) sh108 rc12) (ro_of (by decide) (by decide) (by decide) (by decide)) rfl rfl (Nat.le_of_ble_eq_true rfl) (dkAt dk_X12_setRule 61 rfl) 111 rfl 0 0 rfl rfl ?_
          refine x_aload_n C rfl rfl (dkAt dk_X12_setRule 62 rfl) 112 rfl ?_
          refine x_getS C lk_RX12_7 (hN.sh sh108) (hN.sr sr108_2) (dkAt dk_X12_setRule 63 rfl) 115 rfl ?_
          refine x_iconst C (v := (4 : Int32)) (by decide) (dkAt dk_X12_setRule 64 rfl) 116 rfl ?_
          refine x_iconst C (v := (3 : Int32)) (by decide) (dkAt dk_X12_setRule 65 rfl) 117 rfl ?_
          refine x_iload_n C rfl rfl (dkAt dk_X12_setRule 66 rfl) 118 rfl ?_
          refine x_imul C (dkAt dk_X12_setRule 67 rfl) 119 rfl ?_
          refine x_iadd C (dkAt dk_X12_setRule 68 rfl) 120 rfl ?_
          refine x_iload_n C rfl rfl (dkAt dk_X12_setRule 69 rfl) 121 rfl ?_
          refine x_iast C (hN.sh sh109) (dkAt dk_X12_setRule 70 rfl) 122 rfl hf (fun M11 hf => ?_)
          refine x_aload_n C rfl rfl (dkAt dk_X12_setRule 71 rfl) 123 rfl ?_
          refine x_getS C lk_RX12_7 (hN.sh sh108) (hN.sr sr108_2) (dkAt dk_X12_setRule 72 rfl) 126 rfl ?_
          refine x_iconst C (v := (4 : Int32)) (by decide) (dkAt dk_X12_setRule 73 rfl) 127 rfl ?_
          refine x_iconst C (v := (3 : Int32)) (by decide) (dkAt dk_X12_setRule 74 rfl) 128 rfl ?_
          refine x_iload_n C rfl rfl (dkAt dk_X12_setRule 75 rfl) 129 rfl ?_
          refine x_imul C (dkAt dk_X12_setRule 76 rfl) 130 rfl ?_
          refine x_iadd C (dkAt dk_X12_setRule 77 rfl) 131 rfl ?_
          refine x_iconst C (v := (1 : Int32)) (by decide) (dkAt dk_X12_setRule 78 rfl) 132 rfl ?_
          refine x_iadd C (dkAt dk_X12_setRule 79 rfl) 133 rfl ?_
          refine x_iload_n C rfl rfl (dkAt dk_X12_setRule 80 rfl) 134 rfl ?_
          refine x_iast C (hN.sh sh109) (dkAt dk_X12_setRule 81 rfl) 135 rfl hf (fun M12 hf => ?_)
          refine x_aload_n C rfl rfl (dkAt dk_X12_setRule 82 rfl) 136 rfl ?_
          refine x_getS C lk_RX12_7 (hN.sh sh108) (hN.sr sr108_2) (dkAt dk_X12_setRule 83 rfl) 139 rfl ?_
          refine x_iconst C (v := (4 : Int32)) (by decide) (dkAt dk_X12_setRule 84 rfl) 140 rfl ?_
          refine x_iconst C (v := (3 : Int32)) (by decide) (dkAt dk_X12_setRule 85 rfl) 141 rfl ?_
          refine x_iload_n C rfl rfl (dkAt dk_X12_setRule 86 rfl) 142 rfl ?_
          refine x_imul C (dkAt dk_X12_setRule 87 rfl) 143 rfl ?_
          refine x_iadd C (dkAt dk_X12_setRule 88 rfl) 144 rfl ?_
          refine x_iconst C (v := (2 : Int32)) (by decide) (dkAt dk_X12_setRule 89 rfl) 145 rfl ?_
          refine x_iadd C (dkAt dk_X12_setRule 90 rfl) 146 rfl ?_
          refine x_iload C rfl (dkAt dk_X12_setRule 91 rfl) 148 rfl ?_
          refine x_iast C (hN.sh sh109) (dkAt dk_X12_setRule 92 rfl) 149 rfl hf (fun M13 hf => ?_)
          refine x_aload_n C rfl rfl (dkAt dk_X12_setRule 93 rfl) 150 rfl ?_
          obtain ⟨v14, M15, h16, hf⟩ := cl_inv hf
          refine x_cVi C (c_X12_brokenNow hN h16) mw_X12_brokenNow ln_RX12_293 mi_X12_brokenNow (hN.rc (ci := 12) sh108 rc12) (ro_of (by decide) (by decide) (by decide) (by decide)) rfl rfl (Nat.le_of_ble_eq_true rfl) (dkAt dk_X12_setRule 94 rfl) 153 rfl 0 0 rfl rfl ?_
          exact x_iret C E hf (by decide) (by decide) (dkAt dk_X12_setRule 95 rfl)
        · refine x_iconst C (v := (0 : Int32)) (by decide) (dkAt dk_X12_setRule 58 rfl) 106 rfl ?_
          exact x_iret C E hf (by decide) (by decide) (dkAt dk_X12_setRule 59 rfl)
      · refine x_join hf (fun t20 => G Γ X t5.2 0 0 [some (.ref (wad Γ 108)), some (.int p0), some (.int p1), some (.int p2), some (.int p3)] [.ref (wad Γ 108)] 93) (fun t20 hf => ?_) (fun j21 hj21 hf => ?_)
        · refine x_iconst C (v := (1 : Int32)) (by decide) (dkAt dk_X12_setRule 52 rfl) 94 rfl ?_
          refine x_goto C 98 (dkAt dk_X12_setRule 53 rfl) (by decide) ?_
          exact G.weak (L := [some (.ref (wad Γ 108)), some (.int p0), some (.int p1), some (.int p2), some (.int p3)]) ⟨rfl, rfl, rfl, rfl, rfl, trivial⟩ (hj19 _ hf)
        · refine x_if_eq C 93 (dkAt dk_X12_setRule 44 rfl) 82 rfl (by decide) hf (fun hf => ?_) (fun hf => ?_)
          · exact G.weak (L := [some (.ref (wad Γ 108)), some (.int p0), some (.int p1), some (.int p2), some (.int p3)]) ⟨rfl, rfl, rfl, rfl, rfl, trivial⟩ (hj21 _ hf)
          · refine x_iload_n C rfl rfl (dkAt dk_X12_setRule 45 rfl) 83 rfl ?_
            refine x_iload_n C rfl rfl (dkAt dk_X12_setRule 46 rfl) 84 rfl ?_
            refine x_iadd C (dkAt dk_X12_setRule 47 rfl) 85 rfl ?_
            refine x_iload C rfl (dkAt dk_X12_setRule 48 rfl) 87 rfl ?_
            refine x_iadd C (dkAt dk_X12_setRule 49 rfl) 88 rfl ?_
            refine x_bipush C (v := (10 : Int32)) (by decide) (dkAt dk_X12_setRule 50 rfl) 90 rfl ?_
            refine x_icmp_eq C 97 (dkAt dk_X12_setRule 51 rfl) 93 rfl (by decide) hf (fun hf => ?_) (fun hf => ?_)
            · refine x_iconst C (v := (0 : Int32)) (by decide) (dkAt dk_X12_setRule 54 rfl) 98 rfl ?_
              exact G.weak (L := [some (.ref (wad Γ 108)), some (.int p0), some (.int p1), some (.int p2), some (.int p3)]) ⟨rfl, rfl, rfl, rfl, rfl, trivial⟩ (hj19 _ hf)
            · exact G.weak (L := [some (.ref (wad Γ 108)), some (.int p0), some (.int p1), some (.int p2), some (.int p3)]) ⟨rfl, rfl, rfl, rfl, rfl, trivial⟩ (hj21 _ hf)
    · refine x_join hf (fun t23 => G Γ X t23 0 0 [some (.ref (wad Γ 108)), some (.int p0), some (.int p1), some (.int p2), some (.int p3)] [] 73) (fun t23 hf => ?_) (fun j24 hj24 hf => ?_)
      · refine x_iconst C (v := (0 : Int32)) (by decide) (dkAt dk_X12_setRule 40 rfl) 74 rfl ?_
        exact G.weak (L := [some (.ref (wad Γ 108)), some (.int p0), some (.int p1), some (.int p2), some (.int p3)]) ⟨rfl, rfl, rfl, rfl, rfl, trivial⟩ (hj22 _ hf)
      · refine x_if_eq C 73 (dkAt dk_X12_setRule 9 rfl) 18 rfl (by decide) hf (fun hf => ?_) (fun hf => ?_)
        · exact G.weak (L := [some (.ref (wad Γ 108)), some (.int p0), some (.int p1), some (.int p2), some (.int p3)]) ⟨rfl, rfl, rfl, rfl, rfl, trivial⟩ (hj24 _ hf)
        · refine x_iload_n C rfl rfl (dkAt dk_X12_setRule 10 rfl) 19 rfl ?_
          refine x_aload_n C rfl rfl (dkAt dk_X12_setRule 11 rfl) 20 rfl ?_
          refine x_getS C lk_RX12_20 (hN.sh sh108) (hN.sr sr108_6) (dkAt dk_X12_setRule 12 rfl) 23 rfl ?_
          refine x_bipush C (v := (8 : Int32)) (by decide) (dkAt dk_X12_setRule 13 rfl) 25 rfl ?_
          refine x_iload_n C rfl rfl (dkAt dk_X12_setRule 14 rfl) 26 rfl ?_
          refine x_iadd C (dkAt dk_X12_setRule 15 rfl) 27 rfl ?_
          refine x_iald C (hN.sh sh112) (dkAt dk_X12_setRule 16 rfl) 28 rfl hf (fun v25 hf => ?_)
          refine x_iconst C (v := (1 : Int32)) (by decide) (dkAt dk_X12_setRule 17 rfl) 29 rfl ?_
          refine x_join hf (fun t26 => G Γ X M4 0 0 [some (.ref (wad Γ 108)), some (.int p0), some (.int p1), some (.int p2), some (.int p3)] [.int t26, .int p2] 37) (fun t26 hf => ?_) (fun j36 hj36 hf => ?_)
          · obtain ⟨v27, M28, h35, hf⟩ := cl_inv hf
            refine x_cSi C (c_X12_isWeight hN h35) mw_X12_isWeight ln_RX12_396 ms_X12_isWeight (ro_of (by decide) (by decide) (by decide) (by decide)) rfl rfl (Nat.le_of_ble_eq_true rfl) (dkAt dk_X12_setRule 22 rfl) 40 rfl 0 0 rfl rfl ?_
            refine x_if_eq C 73 (dkAt dk_X12_setRule 23 rfl) 43 rfl (by decide) hf (fun hf => ?_) (fun hf => ?_)
            · exact G.weak (L := [some (.ref (wad Γ 108)), some (.int p0), some (.int p1), some (.int p2), some (.int p3)]) ⟨rfl, rfl, rfl, rfl, rfl, trivial⟩ (hj24 _ hf)
            · refine x_iload C rfl (dkAt dk_X12_setRule 24 rfl) 45 rfl ?_
              refine x_aload_n C rfl rfl (dkAt dk_X12_setRule 25 rfl) 46 rfl ?_
              refine x_getS C lk_RX12_20 (hN.sh sh108) (hN.sr sr108_6) (dkAt dk_X12_setRule 26 rfl) 49 rfl ?_
              refine x_bipush C (v := (8 : Int32)) (by decide) (dkAt dk_X12_setRule 27 rfl) 51 rfl ?_
              refine x_iload_n C rfl rfl (dkAt dk_X12_setRule 28 rfl) 52 rfl ?_
              refine x_iadd C (dkAt dk_X12_setRule 29 rfl) 53 rfl ?_
              refine x_iald C (hN.sh sh112) (dkAt dk_X12_setRule 30 rfl) 54 rfl hf (fun v29 hf => ?_)
              refine x_iconst C (v := (2 : Int32)) (by decide) (dkAt dk_X12_setRule 31 rfl) 55 rfl ?_
              refine x_join hf (fun t30 => G Γ X M28 0 0 [some (.ref (wad Γ 108)), some (.int p0), some (.int p1), some (.int p2), some (.int p3)] [.int t30, .int p3] 63) (fun t30 hf => ?_) (fun j34 hj34 hf => ?_)
              · obtain ⟨v31, M32, h33, hf⟩ := cl_inv hf
                refine x_cSi C (c_X12_isWeight hN h33) mw_X12_isWeight ln_RX12_396 ms_X12_isWeight (ro_of (by decide) (by decide) (by decide) (by decide)) rfl rfl (Nat.le_of_ble_eq_true rfl) (dkAt dk_X12_setRule 36 rfl) 66 rfl 0 0 rfl rfl ?_
                refine x_if_eq C 73 (dkAt dk_X12_setRule 37 rfl) 69 rfl (by decide) hf (fun hf => ?_) (fun hf => ?_)
                · exact G.weak (L := [some (.ref (wad Γ 108)), some (.int p0), some (.int p1), some (.int p2), some (.int p3)]) ⟨rfl, rfl, rfl, rfl, rfl, trivial⟩ (hj24 _ hf)
                · refine x_iconst C (v := (1 : Int32)) (by decide) (dkAt dk_X12_setRule 38 rfl) 70 rfl ?_
                  refine x_goto C 74 (dkAt dk_X12_setRule 39 rfl) (by decide) ?_
                  exact G.weak (L := [some (.ref (wad Γ 108)), some (.int p0), some (.int p1), some (.int p2), some (.int p3)]) ⟨rfl, rfl, rfl, rfl, rfl, trivial⟩ (hj22 _ hf)
              · refine x_icmp_le C 62 (dkAt dk_X12_setRule 32 rfl) 58 rfl (by decide) hf (fun hf => ?_) (fun hf => ?_)
                · refine x_iconst C (v := (0 : Int32)) (by decide) (dkAt dk_X12_setRule 35 rfl) 63 rfl ?_
                  exact G.weak (L := [some (.ref (wad Γ 108)), some (.int p0), some (.int p1), some (.int p2), some (.int p3)]) ⟨rfl, rfl, rfl, rfl, rfl, trivial⟩ (hj34 _ hf)
                · refine x_iconst C (v := (1 : Int32)) (by decide) (dkAt dk_X12_setRule 33 rfl) 59 rfl ?_
                  refine x_goto C 63 (dkAt dk_X12_setRule 34 rfl) (by decide) ?_
                  exact G.weak (L := [some (.ref (wad Γ 108)), some (.int p0), some (.int p1), some (.int p2), some (.int p3)]) ⟨rfl, rfl, rfl, rfl, rfl, trivial⟩ (hj34 _ hf)
          · refine x_icmp_le C 36 (dkAt dk_X12_setRule 18 rfl) 32 rfl (by decide) hf (fun hf => ?_) (fun hf => ?_)
            · refine x_iconst C (v := (0 : Int32)) (by decide) (dkAt dk_X12_setRule 21 rfl) 37 rfl ?_
              exact G.weak (L := [some (.ref (wad Γ 108)), some (.int p0), some (.int p1), some (.int p2), some (.int p3)]) ⟨rfl, rfl, rfl, rfl, rfl, trivial⟩ (hj36 _ hf)
            · refine x_iconst C (v := (1 : Int32)) (by decide) (dkAt dk_X12_setRule 19 rfl) 33 rfl ?_
              refine x_goto C 37 (dkAt dk_X12_setRule 20 rfl) (by decide) ?_
              exact G.weak (L := [some (.ref (wad Γ 108)), some (.int p0), some (.int p1), some (.int p2), some (.int p3)]) ⟨rfl, rfl, rfl, rfl, rfl, trivial⟩ (hj36 _ hf)
  · refine x_iconst C (v := (0 : Int32)) (by decide) (dkAt dk_X12_setRule 4 rfl) 9 rfl ?_
    exact x_iret C E hf (by decide) (by decide) (dkAt dk_X12_setRule 5 rfl)
def f_X12_takeBest_L44 (Z : Nat) : Nat → Int32 → Int32 → Mem → Option (Int32 × Mem)
  | 0, _, _, _ => none
  | n + 1, x11, x12, M13 => rdI M13 112 344 (0 : Int32) (fun v14 => (if v14 ≤ x12 then some (x11, M13) else rdI M13 122 6 x12 (fun v15 => cl (f_X12_weightOf Z M13 x12 v15) (fun v16 M17 => jn (fun (t18 : Int32) => rdI M17 122 6 x12 (fun v19 => cl (f_X12_givesAll Z M17 x12 v19) (fun v20 M21 => f_X12_takeBest_L44 Z n (x11 + t18) (x12 + (1 : Int32)) M21))) (fun j23 => (if v16 = (10 : Int32) then j23 (0 : Int32) else j23 (1 : Int32)))))))
def f_X12_takeBest (Z : Nat) (M : Mem)  : Option (Int32 × Mem) :=
  cl (f_X12_noChain Z M) (fun v1 M2 => (if v1 = 0 then cl (f_X12_findsBest Z M2) (fun v3 M4 => bd (gI M4 (108) 28) (fun v5 => jn (fun (t6 : Int32) => cl (f_X12_refuse Z M4 t6 (1 : Int32)) (fun v7 M8 => (if v7 = 0 then cl (f_X12_keepsAll Z M8) (fun v9 M10 => f_X12_takeBest_L44 Z Z (0 : Int32) (0 : Int32) M10) else some ((0 : Int32), M8)))) (fun j27 => (if v5 = 0 then j27 (1 : Int32) else j27 (0 : Int32))))) else some ((0 : Int32), M2)))
set_option maxRecDepth 100000 in
theorem l_X12_takeBest_L44 {Γ : WC} {X : MX} (hN : HN Γ) (C : CX Γ X cX12_takeBest 3 RX12 (some .int) (rmL 7 0 0)) {rM : Int32 × Mem} (E : EndN Γ X (some (.int rM.1)) rM.2 0 0) {Z : Nat} : ∀ (n : Nat) (x11 : Int32) (x12 : Int32) (M13 : Mem), f_X12_takeBest_L44 Z n x11 x12 M13 = some rM → G Γ X M13 0 0 [some (.ref (wad Γ 108)), some (.int x11), some (.int x12)] [] 44 := by
  intro n
  induction n with
  | zero =>
    intro x11 x12 M13 hf
    have hf0 : (none : Option _) = some rM := hf
    cases hf0
  | succ n ih =>
    intro x11 x12 M13 hf
    rw [f_X12_takeBest_L44] at hf
    refine x_iload_n C rfl rfl (dkAt dk_X12_takeBest 26 rfl) 45 rfl ?_
    refine x_aload_n C rfl rfl (dkAt dk_X12_takeBest 27 rfl) 46 rfl ?_
    refine x_getS C lk_RX12_20 (hN.sh sh108) (hN.sr sr108_6) (dkAt dk_X12_takeBest 28 rfl) 49 rfl ?_
    refine x_iconst C (v := (0 : Int32)) (by decide) (dkAt dk_X12_takeBest 29 rfl) 50 rfl ?_
    refine x_iald C (hN.sh sh112) (dkAt dk_X12_takeBest 30 rfl) 51 rfl hf (fun v14 hf => ?_)
    refine x_icmp_ge C 95 (dkAt dk_X12_takeBest 31 rfl) 54 rfl (by decide) hf (fun hf => ?_) (fun hf => ?_)
    · refine x_iload_n C rfl rfl (dkAt dk_X12_takeBest 56 rfl) 96 rfl ?_
      exact x_iret C E hf (by decide) (by decide) (dkAt dk_X12_takeBest 57 rfl)
    · refine x_iload_n C rfl rfl (dkAt dk_X12_takeBest 32 rfl) 55 rfl ?_
      refine x_aload_n C rfl rfl (dkAt dk_X12_takeBest 33 rfl) 56 rfl ?_
      refine x_iload_n C rfl rfl (dkAt dk_X12_takeBest 34 rfl) 57 rfl ?_
      refine x_aload_n C rfl rfl (dkAt dk_X12_takeBest 35 rfl) 58 rfl ?_
      refine x_getS C lk_RX12_55 (hN.sh sh108) (hN.sr sr108_27) (dkAt dk_X12_takeBest 36 rfl) 61 rfl ?_
      refine x_iload_n C rfl rfl (dkAt dk_X12_takeBest 37 rfl) 62 rfl ?_
      refine x_iald C (hN.sh sh122) (dkAt dk_X12_takeBest 38 rfl) 63 rfl hf (fun v15 hf => ?_)
      obtain ⟨v16, M17, h24, hf⟩ := cl_inv hf
      refine x_cVi C (c_X12_weightOf hN h24) mw_X12_weightOf ln_RX12_252 mi_X12_weightOf (hN.rc (ci := 12) sh108 rc12) (ro_of (by decide) (by decide) (by decide) (by decide)) rfl rfl (Nat.le_of_ble_eq_true rfl) (dkAt dk_X12_takeBest 39 rfl) 66 rfl 0 0 rfl rfl ?_
      refine x_bipush C (v := (10 : Int32)) (by decide) (dkAt dk_X12_takeBest 40 rfl) 68 rfl ?_
      refine x_join hf (fun t18 => G Γ X M17 0 0 [some (.ref (wad Γ 108)), none, some (.int x12)] [.int t18, .int x11] 76) (fun t18 hf => ?_) (fun j23 hj23 hf => ?_)
      · refine x_iadd C (dkAt dk_X12_takeBest 45 rfl) 77 rfl ?_
        refine x_istore_n C (L1 := [some (.ref (wad Γ 108)), some (.int (x11 + t18)), some (.int x12)]) (dkAt dk_X12_takeBest 46 rfl) 78 rfl rfl (by decide) rfl ?_
        refine x_aload_n C rfl rfl (dkAt dk_X12_takeBest 47 rfl) 79 rfl ?_
        refine x_iload_n C rfl rfl (dkAt dk_X12_takeBest 48 rfl) 80 rfl ?_
        refine x_aload_n C rfl rfl (dkAt dk_X12_takeBest 49 rfl) 81 rfl ?_
        refine x_getS C lk_RX12_55 (hN.sh sh108) (hN.sr sr108_27) (dkAt dk_X12_takeBest 50 rfl) 84 rfl ?_
        refine x_iload_n C rfl rfl (dkAt dk_X12_takeBest 51 rfl) 85 rfl ?_
        refine x_iald C (hN.sh sh122) (dkAt dk_X12_takeBest 52 rfl) 86 rfl hf (fun v19 hf => ?_)
        obtain ⟨v20, M21, h22, hf⟩ := cl_inv hf
        refine x_cVv C (c_X12_givesAll hN h22) mw_X12_givesAll ln_RX12_327 mi_X12_givesAll (hN.rc (ci := 12) sh108 rc12) (ro_of (by decide) (by decide) (by decide) (by decide)) rfl rfl (Nat.le_of_ble_eq_true rfl) (dkAt dk_X12_takeBest 53 rfl) 89 rfl 0 0 rfl rfl ?_
        refine x_iinc C (v := (x12 + (1 : Int32))) (L1 := [some (.ref (wad Γ 108)), some (.int (x11 + t18)), some (.int (x12 + (1 : Int32)))]) (dkAt dk_X12_takeBest 54 rfl) 92 rfl rfl rfl (by decide) rfl ?_
        refine x_goto C 44 (dkAt dk_X12_takeBest 55 rfl) (by decide) ?_
        exact G.weak (L := [some (.ref (wad Γ 108)), some (.int (x11 + t18)), some (.int (x12 + (1 : Int32)))]) ⟨rfl, rfl, rfl, trivial⟩ (ih _ _ _ hf)
      · refine x_icmp_ne C 75 (dkAt dk_X12_takeBest 41 rfl) 71 rfl (by decide) hf (fun hf => ?_) (fun hf => ?_)
        · refine x_iconst C (v := (1 : Int32)) (by decide) (dkAt dk_X12_takeBest 44 rfl) 76 rfl ?_
          exact G.weak (L := [some (.ref (wad Γ 108)), none, some (.int x12)]) ⟨rfl, rfl, trivial⟩ (hj23 _ hf)
        · refine x_iconst C (v := (0 : Int32)) (by decide) (dkAt dk_X12_takeBest 42 rfl) 72 rfl ?_
          refine x_goto C 76 (dkAt dk_X12_takeBest 43 rfl) (by decide) ?_
          exact G.weak (L := [some (.ref (wad Γ 108)), none, some (.int x12)]) ⟨rfl, rfl, trivial⟩ (hj23 _ hf)
set_option maxRecDepth 100000 in
theorem c_X12_takeBest {Γ : WC} (hN : HN Γ) {Z : Nat} {M : Mem}  {rM : Int32 × Mem}  (hf : f_X12_takeBest Z M  = some rM) : Ct Γ yX12_takeBest cX12_takeBest 3 (some .int) (rmL 7 0 0) [.ref (wad Γ 108)] M (some (.int rM.1)) rM.2 := by
  refine mkN hN.1 (own := RX12) rfl (by decide) (Nat.le_of_ble_eq_true rfl) (fun X C E => ?_)
  change G Γ X M 0 0 [some (.ref (wad Γ 108))] [] 0
  unfold f_X12_takeBest at hf
  refine x_aload_n C rfl rfl (dkAt dk_X12_takeBest 0 rfl) 1 rfl ?_
  obtain ⟨v1, M2, h29, hf⟩ := cl_inv hf
  refine x_cVi C (c_X12_noChain hN h29) mw_X12_noChain ln_RX12_222 mi_X12_noChain (hN.rc (ci := 12) sh108 rc12) (ro_of (by decide) (by decide) (by decide) (by decide)) rfl rfl (Nat.le_of_ble_eq_true rfl) (dkAt dk_X12_takeBest 1 rfl) 4 rfl 0 0 rfl rfl ?_
  refine x_if_eq C 9 (dkAt dk_X12_takeBest 2 rfl) 7 rfl (by decide) hf (fun hf => ?_) (fun hf => ?_)
  · refine x_aload_n C rfl rfl (dkAt dk_X12_takeBest 5 rfl) 10 rfl ?_
    obtain ⟨v3, M4, h28, hf⟩ := cl_inv hf
    refine x_cVl C (c_X12_findsBest hN h28) mw_X12_findsBest ln_RX12_358 mi_X12_findsBest (hN.rc (ci := 12) sh108 rc12) (ro_of (by decide) (by decide) (by decide) (by decide)) rfl rfl (Nat.le_of_ble_eq_true rfl) (dkAt dk_X12_takeBest 6 rfl) 13 rfl 0 0 rfl rfl ?_
    refine x_pop2 C rfl (dkAt dk_X12_takeBest 7 rfl) 14 rfl ?_
    refine x_aload_n C rfl rfl (dkAt dk_X12_takeBest 8 rfl) 15 rfl ?_
    refine x_aload_n C rfl rfl (dkAt dk_X12_takeBest 9 rfl) 16 rfl ?_
    refine x_getI C lk_RX12_333 (hN.sh sh108) (dkAt dk_X12_takeBest 10 rfl) 19 rfl hf (fun v5 hf => ?_)
    refine x_join hf (fun t6 => G Γ X M4 0 0 [some (.ref (wad Γ 108))] [.int t6, .ref (wad Γ 108)] 27) (fun t6 hf => ?_) (fun j27 hj27 hf => ?_)
    · refine x_iconst C (v := (1 : Int32)) (by decide) (dkAt dk_X12_takeBest 15 rfl) 28 rfl ?_
      obtain ⟨v7, M8, h26, hf⟩ := cl_inv hf
      refine x_cVi C (c_X12_refuse hN h26) mw_X12_refuse ln_RX12_68 mi_X12_refuse (hN.rc (ci := 12) sh108 rc12) (ro_of (by decide) (by decide) (by decide) (by decide)) rfl rfl (Nat.le_of_ble_eq_true rfl) (dkAt dk_X12_takeBest 16 rfl) 31 rfl 0 0 rfl rfl ?_
      refine x_if_eq C 36 (dkAt dk_X12_takeBest 17 rfl) 34 rfl (by decide) hf (fun hf => ?_) (fun hf => ?_)
      · refine x_aload_n C rfl rfl (dkAt dk_X12_takeBest 20 rfl) 37 rfl ?_
        obtain ⟨v9, M10, h25, hf⟩ := cl_inv hf
        refine x_cVv C (c_X12_keepsAll hN h25) mw_X12_keepsAll ln_RX12_400 mi_X12_keepsAll (hN.rc (ci := 12) sh108 rc12) (ro_of (by decide) (by decide) (by decide) (by decide)) rfl rfl (Nat.le_of_ble_eq_true rfl) (dkAt dk_X12_takeBest 21 rfl) 40 rfl 0 0 rfl rfl ?_
        refine x_iconst C (v := (0 : Int32)) (by decide) (dkAt dk_X12_takeBest 22 rfl) 41 rfl ?_
        refine x_istore_n C (L1 := [some (.ref (wad Γ 108)), some (.int (0 : Int32))]) (dkAt dk_X12_takeBest 23 rfl) 42 rfl rfl (by decide) rfl ?_
        refine x_iconst C (v := (0 : Int32)) (by decide) (dkAt dk_X12_takeBest 24 rfl) 43 rfl ?_
        refine x_istore_n C (L1 := [some (.ref (wad Γ 108)), some (.int (0 : Int32)), some (.int (0 : Int32))]) (dkAt dk_X12_takeBest 25 rfl) 44 rfl rfl (by decide) rfl ?_
        refine G.weak (L := [some (.ref (wad Γ 108)), some (.int (0 : Int32)), some (.int (0 : Int32))]) ⟨rfl, rfl, rfl, trivial⟩ ?_
        refine l_X12_takeBest_L44 hN C E Z _ _ _ hf
      · refine x_iconst C (v := (0 : Int32)) (by decide) (dkAt dk_X12_takeBest 18 rfl) 35 rfl ?_
        exact x_iret C E hf (by decide) (by decide) (dkAt dk_X12_takeBest 19 rfl)
    · refine x_if_ne C 26 (dkAt dk_X12_takeBest 11 rfl) 22 rfl (by decide) hf (fun hf => ?_) (fun hf => ?_)
      · refine x_iconst C (v := (0 : Int32)) (by decide) (dkAt dk_X12_takeBest 14 rfl) 27 rfl ?_
        exact G.weak (L := [some (.ref (wad Γ 108))]) ⟨rfl, trivial⟩ (hj27 _ hf)
      · refine x_iconst C (v := (1 : Int32)) (by decide) (dkAt dk_X12_takeBest 12 rfl) 23 rfl ?_
        refine x_goto C 27 (dkAt dk_X12_takeBest 13 rfl) (by decide) ?_
        exact G.weak (L := [some (.ref (wad Γ 108))]) ⟨rfl, trivial⟩ (hj27 _ hf)
  · refine x_iconst C (v := (0 : Int32)) (by decide) (dkAt dk_X12_takeBest 3 rfl) 8 rfl ?_
    exact x_iret C E hf (by decide) (by decide) (dkAt dk_X12_takeBest 4 rfl)
def f_X12_permitted_L4 (Z : Nat) (p0 : Int32) : Nat → Int32 → Int32 → Mem → Option (Int32 × Mem)
  | 0, _, _, _ => none
  | n + 1, x1, x2, M3 => rdI M3 112 344 ((8 : Int32) + p0) (fun v4 => (if v4 ≤ x2 then some (x1, M3) else cl (f_X12_isPermittedNow Z M3 p0 x2) (fun v5 M6 => jn (fun (t7 : Int32) => f_X12_permitted_L4 Z p0 n (x1 + t7) (x2 + (1 : Int32)) M6) (fun j8 => (if v5 = 0 then j8 (0 : Int32) else j8 (1 : Int32))))))
def f_X12_permitted (Z : Nat) (M : Mem) (p0 : Int32) : Option (Int32 × Mem) :=
  f_X12_permitted_L4 Z p0 Z (0 : Int32) (0 : Int32) M
set_option maxRecDepth 100000 in
theorem l_X12_permitted_L4 {Γ : WC} {X : MX} (hN : HN Γ) (C : CX Γ X cX12_permitted 4 RX12 (some .int) (rmL 1 0 0)) {rM : Int32 × Mem} (E : EndN Γ X (some (.int rM.1)) rM.2 0 0) {Z : Nat} {p0 : Int32} : ∀ (n : Nat) (x1 : Int32) (x2 : Int32) (M3 : Mem), f_X12_permitted_L4 Z p0 n x1 x2 M3 = some rM → G Γ X M3 0 0 [some (.ref (wad Γ 108)), some (.int p0), some (.int x1), some (.int x2)] [] 4 := by
  intro n
  induction n with
  | zero =>
    intro x1 x2 M3 hf
    have hf0 : (none : Option _) = some rM := hf
    cases hf0
  | succ n ih =>
    intro x1 x2 M3 hf
    rw [f_X12_permitted_L4] at hf
    refine x_iload_n C rfl rfl (dkAt dk_X12_permitted 4 rfl) 5 rfl ?_
    refine x_aload_n C rfl rfl (dkAt dk_X12_permitted 5 rfl) 6 rfl ?_
    refine x_getS C lk_RX12_20 (hN.sh sh108) (hN.sr sr108_6) (dkAt dk_X12_permitted 6 rfl) 9 rfl ?_
    refine x_bipush C (v := (8 : Int32)) (by decide) (dkAt dk_X12_permitted 7 rfl) 11 rfl ?_
    refine x_iload_n C rfl rfl (dkAt dk_X12_permitted 8 rfl) 12 rfl ?_
    refine x_iadd C (dkAt dk_X12_permitted 9 rfl) 13 rfl ?_
    refine x_iald C (hN.sh sh112) (dkAt dk_X12_permitted 10 rfl) 14 rfl hf (fun v4 hf => ?_)
    refine x_icmp_ge C 40 (dkAt dk_X12_permitted 11 rfl) 17 rfl (by decide) hf (fun hf => ?_) (fun hf => ?_)
    · refine x_iload_n C rfl rfl (dkAt dk_X12_permitted 25 rfl) 41 rfl ?_
      exact x_iret C E hf (by decide) (by decide) (dkAt dk_X12_permitted 26 rfl)
    · refine x_iload_n C rfl rfl (dkAt dk_X12_permitted 12 rfl) 18 rfl ?_
      refine x_aload_n C rfl rfl (dkAt dk_X12_permitted 13 rfl) 19 rfl ?_
      refine x_iload_n C rfl rfl (dkAt dk_X12_permitted 14 rfl) 20 rfl ?_
      refine x_iload_n C rfl rfl (dkAt dk_X12_permitted 15 rfl) 21 rfl ?_
      obtain ⟨v5, M6, h9, hf⟩ := cl_inv hf
      refine x_cVi C (c_X12_isPermittedNow hN h9) mw_X12_isPermittedNow ln_RX12_255 mi_X12_isPermittedNow (hN.rc (ci := 12) sh108 rc12) (ro_of (by decide) (by decide) (by decide) (by decide)) rfl rfl (Nat.le_of_ble_eq_true rfl) (dkAt dk_X12_permitted 16 rfl) 24 rfl 0 0 rfl rfl ?_
      refine x_join hf (fun t7 => G Γ X M6 0 0 [some (.ref (wad Γ 108)), some (.int p0), none, some (.int x2)] [.int t7, .int x1] 32) (fun t7 hf => ?_) (fun j8 hj8 hf => ?_)
      · refine x_iadd C (dkAt dk_X12_permitted 21 rfl) 33 rfl ?_
        refine x_istore_n C (L1 := [some (.ref (wad Γ 108)), some (.int p0), some (.int (x1 + t7)), some (.int x2)]) (dkAt dk_X12_permitted 22 rfl) 34 rfl rfl (by decide) rfl ?_
        refine x_iinc C (v := (x2 + (1 : Int32))) (L1 := [some (.ref (wad Γ 108)), some (.int p0), some (.int (x1 + t7)), some (.int (x2 + (1 : Int32)))]) (dkAt dk_X12_permitted 23 rfl) 37 rfl rfl rfl (by decide) rfl ?_
        refine x_goto C 4 (dkAt dk_X12_permitted 24 rfl) (by decide) ?_
        exact G.weak (L := [some (.ref (wad Γ 108)), some (.int p0), some (.int (x1 + t7)), some (.int (x2 + (1 : Int32)))]) ⟨rfl, rfl, rfl, rfl, trivial⟩ (ih _ _ _ hf)
      · refine x_if_eq C 31 (dkAt dk_X12_permitted 17 rfl) 27 rfl (by decide) hf (fun hf => ?_) (fun hf => ?_)
        · refine x_iconst C (v := (0 : Int32)) (by decide) (dkAt dk_X12_permitted 20 rfl) 32 rfl ?_
          exact G.weak (L := [some (.ref (wad Γ 108)), some (.int p0), none, some (.int x2)]) ⟨rfl, rfl, rfl, trivial⟩ (hj8 _ hf)
        · refine x_iconst C (v := (1 : Int32)) (by decide) (dkAt dk_X12_permitted 18 rfl) 28 rfl ?_
          refine x_goto C 32 (dkAt dk_X12_permitted 19 rfl) (by decide) ?_
          exact G.weak (L := [some (.ref (wad Γ 108)), some (.int p0), none, some (.int x2)]) ⟨rfl, rfl, rfl, trivial⟩ (hj8 _ hf)
set_option maxRecDepth 100000 in
theorem c_X12_permitted {Γ : WC} (hN : HN Γ) {Z : Nat} {M : Mem} {p0 : Int32} {rM : Int32 × Mem}  (hf : f_X12_permitted Z M p0 = some rM) : Ct Γ yX12_permitted cX12_permitted 4 (some .int) (rmL 1 0 0) [.ref (wad Γ 108), .int p0] M (some (.int rM.1)) rM.2 := by
  refine mkN hN.1 (own := RX12) rfl (by decide) (Nat.le_of_ble_eq_true rfl) (fun X C E => ?_)
  change G Γ X M 0 0 [some (.ref (wad Γ 108)), some (.int p0)] [] 0
  unfold f_X12_permitted at hf
  refine x_iconst C (v := (0 : Int32)) (by decide) (dkAt dk_X12_permitted 0 rfl) 1 rfl ?_
  refine x_istore_n C (L1 := [some (.ref (wad Γ 108)), some (.int p0), some (.int (0 : Int32))]) (dkAt dk_X12_permitted 1 rfl) 2 rfl rfl (by decide) rfl ?_
  refine x_iconst C (v := (0 : Int32)) (by decide) (dkAt dk_X12_permitted 2 rfl) 3 rfl ?_
  refine x_istore_n C (L1 := [some (.ref (wad Γ 108)), some (.int p0), some (.int (0 : Int32)), some (.int (0 : Int32))]) (dkAt dk_X12_permitted 3 rfl) 4 rfl rfl (by decide) rfl ?_
  refine G.weak (L := [some (.ref (wad Γ 108)), some (.int p0), some (.int (0 : Int32)), some (.int (0 : Int32))]) ⟨rfl, rfl, rfl, rfl, trivial⟩ ?_
  refine l_X12_permitted_L4 hN C E Z _ _ _ hf
def f_X12_permit (Z : Nat) (M : Mem) (p0 : Int32) (p1 : Int32) (p2 : Int32) : Option (Int32 × Mem) :=
  cl (f_X12_noAction Z M p0 p1) (fun v1 M2 => (if v1 = 0 then cl (f_X12_isPermittedNow Z M2 p0 p1) (fun v3 M4 => jn (fun (t5 : Int32 × Mem) => cl (f_X12_refuse Z t5.2 t5.1 (3 : Int32)) (fun v6 M7 => (if v6 = 0 then cl (f_X12_keepsAll Z M7) (fun v8 M9 => (if p2 = 0 then wrI M9 109 54 (((22 : Int32) + ((3 : Int32) * p0)) + p1) (0 : Int32) (fun M10 => (if v3 &&& 1 = v3 then some (v3, M10) else none)) else wrI M9 109 54 (((22 : Int32) + ((3 : Int32) * p0)) + p1) (1 : Int32) (fun M11 => (if v3 &&& 1 = v3 then some (v3, M11) else none)))) else some ((0 : Int32), M7)))) (fun j14 => jn (fun (t15 : Mem) => j14 ((0 : Int32), t15)) (fun j16 => (if p2 = 0 then (if v3 = 0 then j16 M4 else cl (f_X12_permitted Z M4 p0) (fun v17 M18 => (if v17 = (1 : Int32) then j14 ((1 : Int32), M18) else j16 M18))) else j16 M4)))) else some ((0 : Int32), M2)))
set_option maxRecDepth 100000 in
theorem c_X12_permit {Γ : WC} (hN : HN Γ) {Z : Nat} {M : Mem} {p0 : Int32} {p1 : Int32} {p2 : Int32} {rM : Int32 × Mem}  (hf : f_X12_permit Z M p0 p1 p2 = some rM) : Ct Γ yX12_permit cX12_permit 5 (some .boolean) (rmL 4 0 0) [.ref (wad Γ 108), .int p0, .int p1, .int p2] M (some (.int rM.1)) rM.2 := by
  refine mkN hN.1 (own := RX12) rfl (by decide) (Nat.le_of_ble_eq_true rfl) (fun X C E => ?_)
  change G Γ X M 0 0 [some (.ref (wad Γ 108)), some (.int p0), some (.int p1), some (.int p2)] [] 0
  unfold f_X12_permit at hf
  refine x_aload_n C rfl rfl (dkAt dk_X12_permit 0 rfl) 1 rfl ?_
  refine x_iload_n C rfl rfl (dkAt dk_X12_permit 1 rfl) 2 rfl ?_
  refine x_iload_n C rfl rfl (dkAt dk_X12_permit 2 rfl) 3 rfl ?_
  obtain ⟨v1, M2, h21, hf⟩ := cl_inv hf
  refine x_cVi C (c_X12_noAction hN h21) mw_X12_noAction ln_RX12_239 mi_X12_noAction (hN.rc (ci := 12) sh108 rc12) (ro_of (by decide) (by decide) (by decide) (by decide)) rfl rfl (Nat.le_of_ble_eq_true rfl) (dkAt dk_X12_permit 3 rfl) 6 rfl 0 0 rfl rfl ?_
  refine x_if_eq C 11 (dkAt dk_X12_permit 4 rfl) 9 rfl (by decide) hf (fun hf => ?_) (fun hf => ?_)
  · refine x_aload_n C rfl rfl (dkAt dk_X12_permit 7 rfl) 12 rfl ?_
    refine x_iload_n C rfl rfl (dkAt dk_X12_permit 8 rfl) 13 rfl ?_
    refine x_iload_n C rfl rfl (dkAt dk_X12_permit 9 rfl) 14 rfl ?_
    obtain ⟨v3, M4, h20, hf⟩ := cl_inv hf
    refine x_cVi C (c_X12_isPermittedNow hN h20) mw_X12_isPermittedNow ln_RX12_255 mi_X12_isPermittedNow (hN.rc (ci := 12) sh108 rc12) (ro_of (by decide) (by decide) (by decide) (by decide)) rfl rfl (Nat.le_of_ble_eq_true rfl) (dkAt dk_X12_permit 10 rfl) 17 rfl 0 0 rfl rfl ?_
    refine x_istore C (L1 := [some (.ref (wad Γ 108)), some (.int p0), some (.int p1), some (.int p2), some (.int v3)]) (dkAt dk_X12_permit 11 rfl) 19 rfl (by decide) rfl ?_
    refine x_aload_n C rfl rfl (dkAt dk_X12_permit 12 rfl) 20 rfl ?_
    refine x_iload_n C rfl rfl (dkAt dk_X12_permit 13 rfl) 21 rfl ?_
    refine x_join hf (fun t5 => G Γ X t5.2 0 0 [some (.ref (wad Γ 108)), some (.int p0), some (.int p1), some (.int p2), some (.int v3)] [.int t5.1, .ref (wad Γ 108)] 43) (fun t5 hf => ?_) (fun j14 hj14 hf => ?_)
    · refine x_iconst C (v := (3 : Int32)) (by decide) (dkAt dk_X12_permit 25 rfl) 44 rfl ?_
      obtain ⟨v6, M7, h13, hf⟩ := cl_inv hf
      refine x_cVi C (c_X12_refuse hN h13) mw_X12_refuse ln_RX12_68 mi_X12_refuse (hN.rc (ci := 12) sh108 rc12) (ro_of (by decide) (by decide) (by decide) (by decide)) rfl rfl (Nat.le_of_ble_eq_true rfl) (dkAt dk_X12_permit 26 rfl) 47 rfl 0 0 rfl rfl ?_
      refine x_if_eq C 52 (dkAt dk_X12_permit 27 rfl) 50 rfl (by decide) hf (fun hf => ?_) (fun hf => ?_)
      · refine x_aload_n C rfl rfl (dkAt dk_X12_permit 30 rfl) 53 rfl ?_
        obtain ⟨v8, M9, h12, hf⟩ := cl_inv hf
        refine x_cVv C (c_X12_keepsAll hN h12) mw_X12_keepsAll ln_RX12_400 mi_X12_keepsAll (hN.rc (ci := 12) sh108 rc12) (ro_of (by decide) (by decide) (by decide) (by decide)) rfl rfl (Nat.le_of_ble_eq_true rfl) (dkAt dk_X12_permit 31 rfl) 56 rfl 0 0 rfl rfl ?_
        refine x_aload_n C rfl rfl (dkAt dk_X12_permit 32 rfl) 57 rfl ?_
        refine x_getS C lk_RX12_7 (hN.sh sh108) (hN.sr sr108_2) (dkAt dk_X12_permit 33 rfl) 60 rfl ?_
        refine x_bipush C (v := (22 : Int32)) (by decide) (dkAt dk_X12_permit 34 rfl) 62 rfl ?_
        refine x_iconst C (v := (3 : Int32)) (by decide) (dkAt dk_X12_permit 35 rfl) 63 rfl ?_
        refine x_iload_n C rfl rfl (dkAt dk_X12_permit 36 rfl) 64 rfl ?_
        refine x_imul C (dkAt dk_X12_permit 37 rfl) 65 rfl ?_
        refine x_iadd C (dkAt dk_X12_permit 38 rfl) 66 rfl ?_
        refine x_iload_n C rfl rfl (dkAt dk_X12_permit 39 rfl) 67 rfl ?_
        refine x_iadd C (dkAt dk_X12_permit 40 rfl) 68 rfl ?_
        refine x_iload_n C rfl rfl (dkAt dk_X12_permit 41 rfl) 69 rfl ?_
        refine x_if_eq C 76 (dkAt dk_X12_permit 42 rfl) 72 rfl (by decide) hf (fun hf => ?_) (fun hf => ?_)
        · refine x_iconst C (v := (0 : Int32)) (by decide) (dkAt dk_X12_permit 45 rfl) 77 rfl ?_
          refine x_iast C (hN.sh sh109) (dkAt dk_X12_permit 46 rfl) 78 rfl hf (fun M10 hf => ?_)
          refine x_iload C rfl (dkAt dk_X12_permit 47 rfl) 80 rfl ?_
          obtain ⟨hz, hf⟩ := if_some hf
          exact x_zret C E hz hf (by decide) (by decide) (dkAt dk_X12_permit 48 rfl)
        · refine x_iconst C (v := (1 : Int32)) (by decide) (dkAt dk_X12_permit 43 rfl) 73 rfl ?_
          refine x_goto C 77 (dkAt dk_X12_permit 44 rfl) (by decide) ?_
          refine x_iast C (hN.sh sh109) (dkAt dk_X12_permit 46 rfl) 78 rfl hf (fun M11 hf => ?_)
          refine x_iload C rfl (dkAt dk_X12_permit 47 rfl) 80 rfl ?_
          obtain ⟨hz, hf⟩ := if_some hf
          exact x_zret C E hz hf (by decide) (by decide) (dkAt dk_X12_permit 48 rfl)
      · refine x_iconst C (v := (0 : Int32)) (by decide) (dkAt dk_X12_permit 28 rfl) 51 rfl ?_
        exact x_zret C E (by decide) hf (by decide) (by decide) (dkAt dk_X12_permit 29 rfl)
    · refine x_join hf (fun t15 => G Γ X t15 0 0 [some (.ref (wad Γ 108)), some (.int p0), some (.int p1), some (.int p2), some (.int v3)] [.ref (wad Γ 108)] 42) (fun t15 hf => ?_) (fun j16 hj16 hf => ?_)
      · refine x_iconst C (v := (0 : Int32)) (by decide) (dkAt dk_X12_permit 24 rfl) 43 rfl ?_
        exact G.weak (L := [some (.ref (wad Γ 108)), some (.int p0), some (.int p1), some (.int p2), some (.int v3)]) ⟨rfl, rfl, rfl, rfl, rfl, trivial⟩ (hj14 _ hf)
      · refine x_if_ne C 42 (dkAt dk_X12_permit 14 rfl) 24 rfl (by decide) hf (fun hf => ?_) (fun hf => ?_)
        · exact G.weak (L := [some (.ref (wad Γ 108)), some (.int p0), some (.int p1), some (.int p2), some (.int v3)]) ⟨rfl, rfl, rfl, rfl, rfl, trivial⟩ (hj16 _ hf)
        · refine x_iload C rfl (dkAt dk_X12_permit 15 rfl) 26 rfl ?_
          refine x_if_eq C 42 (dkAt dk_X12_permit 16 rfl) 29 rfl (by decide) hf (fun hf => ?_) (fun hf => ?_)
          · exact G.weak (L := [some (.ref (wad Γ 108)), some (.int p0), some (.int p1), some (.int p2), some (.int v3)]) ⟨rfl, rfl, rfl, rfl, rfl, trivial⟩ (hj16 _ hf)
          · refine x_aload_n C rfl rfl (dkAt dk_X12_permit 17 rfl) 30 rfl ?_
            refine x_iload_n C rfl rfl (dkAt dk_X12_permit 18 rfl) 31 rfl ?_
            obtain ⟨v17, M18, h19, hf⟩ := cl_inv hf
            refine x_cVi C (c_X12_permitted hN h19) mw_X12_permitted ln_RX12_403 mi_X12_permitted (hN.rc (ci := 12) sh108 rc12) (ro_of (by decide) (by decide) (by decide) (by decide)) rfl rfl (Nat.le_of_ble_eq_true rfl) (dkAt dk_X12_permit 19 rfl) 34 rfl 0 0 rfl rfl ?_
            refine x_iconst C (v := (1 : Int32)) (by decide) (dkAt dk_X12_permit 20 rfl) 35 rfl ?_
            refine x_icmp_ne C 42 (dkAt dk_X12_permit 21 rfl) 38 rfl (by decide) hf (fun hf => ?_) (fun hf => ?_)
            · exact G.weak (L := [some (.ref (wad Γ 108)), some (.int p0), some (.int p1), some (.int p2), some (.int v3)]) ⟨rfl, rfl, rfl, rfl, rfl, trivial⟩ (hj16 _ hf)
            · refine x_iconst C (v := (1 : Int32)) (by decide) (dkAt dk_X12_permit 22 rfl) 39 rfl ?_
              refine x_goto C 43 (dkAt dk_X12_permit 23 rfl) (by decide) ?_
              exact G.weak (L := [some (.ref (wad Γ 108)), some (.int p0), some (.int p1), some (.int p2), some (.int v3)]) ⟨rfl, rfl, rfl, rfl, rfl, trivial⟩ (hj14 _ hf)
  · refine x_iconst C (v := (0 : Int32)) (by decide) (dkAt dk_X12_permit 5 rfl) 10 rfl ?_
    exact x_zret C E (by decide) hf (by decide) (by decide) (dkAt dk_X12_permit 6 rfl)
def f_X12_setLimit (Z : Nat) (M : Mem) (p0 : Int32) (p1 : Int32) : Option (Int32 × Mem) :=
  cl (f_X12_noBudget Z M p0) (fun v1 M2 => (if v1 = 0 then cl (f_X12_in Z M2 p1.toInt64 (0 : Int64) (9999 : Int64)) (fun v3 M4 => jn (fun (t5 : Int32) => cl (f_X12_refuse Z M4 t5 (3 : Int32)) (fun v6 M7 => (if v6 = 0 then cl (f_X12_keepsAll Z M7) (fun v8 M9 => rdI M9 109 54 ((40 : Int32) + p0) (fun v10 => wrI M9 109 54 ((40 : Int32) + p0) p1 (fun M11 => some (v10, M11)))) else some ((0 : Int32), M7)))) (fun j14 => (if v3 = 0 then j14 (1 : Int32) else j14 (0 : Int32)))) else some ((0 : Int32), M2)))
set_option maxRecDepth 100000 in
theorem c_X12_setLimit {Γ : WC} (hN : HN Γ) {Z : Nat} {M : Mem} {p0 : Int32} {p1 : Int32} {rM : Int32 × Mem}  (hf : f_X12_setLimit Z M p0 p1 = some rM) : Ct Γ yX12_setLimit cX12_setLimit 4 (some .int) (rmL 3 0 0) [.ref (wad Γ 108), .int p0, .int p1] M (some (.int rM.1)) rM.2 := by
  refine mkN hN.1 (own := RX12) rfl (by decide) (Nat.le_of_ble_eq_true rfl) (fun X C E => ?_)
  change G Γ X M 0 0 [some (.ref (wad Γ 108)), some (.int p0), some (.int p1)] [] 0
  unfold f_X12_setLimit at hf
  refine x_aload_n C rfl rfl (dkAt dk_X12_setLimit 0 rfl) 1 rfl ?_
  refine x_iload_n C rfl rfl (dkAt dk_X12_setLimit 1 rfl) 2 rfl ?_
  obtain ⟨v1, M2, h16, hf⟩ := cl_inv hf
  refine x_cVi C (c_X12_noBudget hN h16) mw_X12_noBudget ln_RX12_258 mi_X12_noBudget (hN.rc (ci := 12) sh108 rc12) (ro_of (by decide) (by decide) (by decide) (by decide)) rfl rfl (Nat.le_of_ble_eq_true rfl) (dkAt dk_X12_setLimit 2 rfl) 5 rfl 0 0 rfl rfl ?_
  refine x_if_ne C 33 (dkAt dk_X12_setLimit 3 rfl) 8 rfl (by decide) hf (fun hf => ?_) (fun hf => ?_)
  · refine x_iconst C (v := (0 : Int32)) (by decide) (dkAt dk_X12_setLimit 17 rfl) 34 rfl ?_
    exact x_iret C E hf (by decide) (by decide) (dkAt dk_X12_setLimit 18 rfl)
  · refine x_aload_n C rfl rfl (dkAt dk_X12_setLimit 4 rfl) 9 rfl ?_
    refine x_iload_n C rfl rfl (dkAt dk_X12_setLimit 5 rfl) 10 rfl ?_
    refine x_i2l C (dkAt dk_X12_setLimit 6 rfl) 11 rfl ?_
    refine x_lconst C (v := (0 : Int64)) (by decide) (dkAt dk_X12_setLimit 7 rfl) 12 rfl ?_
    refine x_ldc2 C (v := (9999 : Int64)) cl_RX12_361 (dkAt dk_X12_setLimit 8 rfl) 15 rfl ?_
    obtain ⟨v3, M4, h15, hf⟩ := cl_inv hf
    refine x_cSi C (c_X12_in hN h15) mw_X12_in ln_RX12_137 ms_X12_in (ro_of (by decide) (by decide) (by decide) (by decide)) rfl rfl (Nat.le_of_ble_eq_true rfl) (dkAt dk_X12_setLimit 9 rfl) 18 rfl 0 0 rfl rfl ?_
    refine x_join hf (fun t5 => G Γ X M4 0 0 [some (.ref (wad Γ 108)), some (.int p0), some (.int p1)] [.int t5, .ref (wad Γ 108)] 26) (fun t5 hf => ?_) (fun j14 hj14 hf => ?_)
    · refine x_iconst C (v := (3 : Int32)) (by decide) (dkAt dk_X12_setLimit 14 rfl) 27 rfl ?_
      obtain ⟨v6, M7, h13, hf⟩ := cl_inv hf
      refine x_cVi C (c_X12_refuse hN h13) mw_X12_refuse ln_RX12_68 mi_X12_refuse (hN.rc (ci := 12) sh108 rc12) (ro_of (by decide) (by decide) (by decide) (by decide)) rfl rfl (Nat.le_of_ble_eq_true rfl) (dkAt dk_X12_setLimit 15 rfl) 30 rfl 0 0 rfl rfl ?_
      refine x_if_eq C 35 (dkAt dk_X12_setLimit 16 rfl) 33 rfl (by decide) hf (fun hf => ?_) (fun hf => ?_)
      · refine x_aload_n C rfl rfl (dkAt dk_X12_setLimit 19 rfl) 36 rfl ?_
        obtain ⟨v8, M9, h12, hf⟩ := cl_inv hf
        refine x_cVv C (c_X12_keepsAll hN h12) mw_X12_keepsAll ln_RX12_400 mi_X12_keepsAll (hN.rc (ci := 12) sh108 rc12) (ro_of (by decide) (by decide) (by decide) (by decide)) rfl rfl (Nat.le_of_ble_eq_true rfl) (dkAt dk_X12_setLimit 20 rfl) 39 rfl 0 0 rfl rfl ?_
        refine x_aload_n C rfl rfl (dkAt dk_X12_setLimit 21 rfl) 40 rfl ?_
        refine x_getS C lk_RX12_7 (hN.sh sh108) (hN.sr sr108_2) (dkAt dk_X12_setLimit 22 rfl) 43 rfl ?_
        refine x_bipush C (v := (40 : Int32)) (by decide) (dkAt dk_X12_setLimit 23 rfl) 45 rfl ?_
        refine x_iload_n C rfl rfl (dkAt dk_X12_setLimit 24 rfl) 46 rfl ?_
        refine x_iadd C (dkAt dk_X12_setLimit 25 rfl) 47 rfl ?_
        refine x_iald C (hN.sh sh109) (dkAt dk_X12_setLimit 26 rfl) 48 rfl hf (fun v10 hf => ?_)
        refine x_istore_n C (L1 := [some (.ref (wad Γ 108)), some (.int p0), some (.int p1), some (.int v10)]) (dkAt dk_X12_setLimit 27 rfl) 49 rfl rfl (by decide) rfl ?_
        refine x_aload_n C rfl rfl (dkAt dk_X12_setLimit 28 rfl) 50 rfl ?_
        refine x_getS C lk_RX12_7 (hN.sh sh108) (hN.sr sr108_2) (dkAt dk_X12_setLimit 29 rfl) 53 rfl ?_
        refine x_bipush C (v := (40 : Int32)) (by decide) (dkAt dk_X12_setLimit 30 rfl) 55 rfl ?_
        refine x_iload_n C rfl rfl (dkAt dk_X12_setLimit 31 rfl) 56 rfl ?_
        refine x_iadd C (dkAt dk_X12_setLimit 32 rfl) 57 rfl ?_
        refine x_iload_n C rfl rfl (dkAt dk_X12_setLimit 33 rfl) 58 rfl ?_
        refine x_iast C (hN.sh sh109) (dkAt dk_X12_setLimit 34 rfl) 59 rfl hf (fun M11 hf => ?_)
        refine x_iload_n C rfl rfl (dkAt dk_X12_setLimit 35 rfl) 60 rfl ?_
        exact x_iret C E hf (by decide) (by decide) (dkAt dk_X12_setLimit 36 rfl)
      · refine x_iconst C (v := (0 : Int32)) (by decide) (dkAt dk_X12_setLimit 17 rfl) 34 rfl ?_
        exact x_iret C E hf (by decide) (by decide) (dkAt dk_X12_setLimit 18 rfl)
    · refine x_if_ne C 25 (dkAt dk_X12_setLimit 10 rfl) 21 rfl (by decide) hf (fun hf => ?_) (fun hf => ?_)
      · refine x_iconst C (v := (0 : Int32)) (by decide) (dkAt dk_X12_setLimit 13 rfl) 26 rfl ?_
        exact G.weak (L := [some (.ref (wad Γ 108)), some (.int p0), some (.int p1)]) ⟨rfl, rfl, rfl, trivial⟩ (hj14 _ hf)
      · refine x_iconst C (v := (1 : Int32)) (by decide) (dkAt dk_X12_setLimit 11 rfl) 22 rfl ?_
        refine x_goto C 26 (dkAt dk_X12_setLimit 12 rfl) (by decide) ?_
        exact G.weak (L := [some (.ref (wad Γ 108)), some (.int p0), some (.int p1)]) ⟨rfl, rfl, rfl, trivial⟩ (hj14 _ hf)
def f_X12_setStart (Z : Nat) (M : Mem) (p0 : Int32) : Option (Int32 × Mem) :=
  cl (f_X12_noState Z M p0) (fun v1 M2 => (if v1 = 0 then cl (f_X12_keepsAll Z M2) (fun v3 M4 => rdI M4 109 54 (0 : Int32) (fun v5 => wrI M4 109 54 (0 : Int32) p0 (fun M6 => some (v5, M6)))) else some ((0 : Int32), M2)))
set_option maxRecDepth 100000 in
theorem c_X12_setStart {Γ : WC} (hN : HN Γ) {Z : Nat} {M : Mem} {p0 : Int32} {rM : Int32 × Mem}  (hf : f_X12_setStart Z M p0 = some rM) : Ct Γ yX12_setStart cX12_setStart 3 (some .int) (rmL 3 0 0) [.ref (wad Γ 108), .int p0] M (some (.int rM.1)) rM.2 := by
  refine mkN hN.1 (own := RX12) rfl (by decide) (Nat.le_of_ble_eq_true rfl) (fun X C E => ?_)
  change G Γ X M 0 0 [some (.ref (wad Γ 108)), some (.int p0)] [] 0
  unfold f_X12_setStart at hf
  refine x_aload_n C rfl rfl (dkAt dk_X12_setStart 0 rfl) 1 rfl ?_
  refine x_iload_n C rfl rfl (dkAt dk_X12_setStart 1 rfl) 2 rfl ?_
  obtain ⟨v1, M2, h8, hf⟩ := cl_inv hf
  refine x_cVi C (c_X12_noState hN h8) mw_X12_noState ln_RX12_236 mi_X12_noState (hN.rc (ci := 12) sh108 rc12) (ro_of (by decide) (by decide) (by decide) (by decide)) rfl rfl (Nat.le_of_ble_eq_true rfl) (dkAt dk_X12_setStart 2 rfl) 5 rfl 0 0 rfl rfl ?_
  refine x_if_eq C 10 (dkAt dk_X12_setStart 3 rfl) 8 rfl (by decide) hf (fun hf => ?_) (fun hf => ?_)
  · refine x_aload_n C rfl rfl (dkAt dk_X12_setStart 6 rfl) 11 rfl ?_
    obtain ⟨v3, M4, h7, hf⟩ := cl_inv hf
    refine x_cVv C (c_X12_keepsAll hN h7) mw_X12_keepsAll ln_RX12_400 mi_X12_keepsAll (hN.rc (ci := 12) sh108 rc12) (ro_of (by decide) (by decide) (by decide) (by decide)) rfl rfl (Nat.le_of_ble_eq_true rfl) (dkAt dk_X12_setStart 7 rfl) 14 rfl 0 0 rfl rfl ?_
    refine x_aload_n C rfl rfl (dkAt dk_X12_setStart 8 rfl) 15 rfl ?_
    refine x_getS C lk_RX12_7 (hN.sh sh108) (hN.sr sr108_2) (dkAt dk_X12_setStart 9 rfl) 18 rfl ?_
    refine x_iconst C (v := (0 : Int32)) (by decide) (dkAt dk_X12_setStart 10 rfl) 19 rfl ?_
    refine x_iald C (hN.sh sh109) (dkAt dk_X12_setStart 11 rfl) 20 rfl hf (fun v5 hf => ?_)
    refine x_istore_n C (L1 := [some (.ref (wad Γ 108)), some (.int p0), some (.int v5)]) (dkAt dk_X12_setStart 12 rfl) 21 rfl rfl (by decide) rfl ?_
    refine x_aload_n C rfl rfl (dkAt dk_X12_setStart 13 rfl) 22 rfl ?_
    refine x_getS C lk_RX12_7 (hN.sh sh108) (hN.sr sr108_2) (dkAt dk_X12_setStart 14 rfl) 25 rfl ?_
    refine x_iconst C (v := (0 : Int32)) (by decide) (dkAt dk_X12_setStart 15 rfl) 26 rfl ?_
    refine x_iload_n C rfl rfl (dkAt dk_X12_setStart 16 rfl) 27 rfl ?_
    refine x_iast C (hN.sh sh109) (dkAt dk_X12_setStart 17 rfl) 28 rfl hf (fun M6 hf => ?_)
    refine x_iload_n C rfl rfl (dkAt dk_X12_setStart 18 rfl) 29 rfl ?_
    exact x_iret C E hf (by decide) (by decide) (dkAt dk_X12_setStart 19 rfl)
  · refine x_iconst C (v := (0 : Int32)) (by decide) (dkAt dk_X12_setStart 4 rfl) 9 rfl ?_
    exact x_iret C E hf (by decide) (by decide) (dkAt dk_X12_setStart 5 rfl)
def f_X12_setHorizon (Z : Nat) (M : Mem) (p0 : Int32) : Option (Int32 × Mem) :=
  cl (f_X12_noChain Z M) (fun v1 M2 => (if v1 = 0 then cl (f_X12_in Z M2 p0.toInt64 (1 : Int64) (5 : Int64)) (fun v3 M4 => jn (fun (t5 : Int32) => cl (f_X12_refuse Z M4 t5 (2 : Int32)) (fun v6 M7 => (if v6 = 0 then cl (f_X12_keepsAll Z M7) (fun v8 M9 => rdI M9 109 54 (1 : Int32) (fun v10 => wrI M9 109 54 (1 : Int32) p0 (fun M11 => some (v10, M11)))) else some ((0 : Int32), M7)))) (fun j14 => (if v3 = 0 then j14 (1 : Int32) else j14 (0 : Int32)))) else some ((0 : Int32), M2)))
set_option maxRecDepth 100000 in
theorem c_X12_setHorizon {Γ : WC} (hN : HN Γ) {Z : Nat} {M : Mem} {p0 : Int32} {rM : Int32 × Mem}  (hf : f_X12_setHorizon Z M p0 = some rM) : Ct Γ yX12_setHorizon cX12_setHorizon 3 (some .int) (rmL 2 0 0) [.ref (wad Γ 108), .int p0] M (some (.int rM.1)) rM.2 := by
  refine mkN hN.1 (own := RX12) rfl (by decide) (Nat.le_of_ble_eq_true rfl) (fun X C E => ?_)
  change G Γ X M 0 0 [some (.ref (wad Γ 108)), some (.int p0)] [] 0
  unfold f_X12_setHorizon at hf
  refine x_aload_n C rfl rfl (dkAt dk_X12_setHorizon 0 rfl) 1 rfl ?_
  obtain ⟨v1, M2, h16, hf⟩ := cl_inv hf
  refine x_cVi C (c_X12_noChain hN h16) mw_X12_noChain ln_RX12_222 mi_X12_noChain (hN.rc (ci := 12) sh108 rc12) (ro_of (by decide) (by decide) (by decide) (by decide)) rfl rfl (Nat.le_of_ble_eq_true rfl) (dkAt dk_X12_setHorizon 1 rfl) 4 rfl 0 0 rfl rfl ?_
  refine x_if_ne C 32 (dkAt dk_X12_setHorizon 2 rfl) 7 rfl (by decide) hf (fun hf => ?_) (fun hf => ?_)
  · refine x_iconst C (v := (0 : Int32)) (by decide) (dkAt dk_X12_setHorizon 16 rfl) 33 rfl ?_
    exact x_iret C E hf (by decide) (by decide) (dkAt dk_X12_setHorizon 17 rfl)
  · refine x_aload_n C rfl rfl (dkAt dk_X12_setHorizon 3 rfl) 8 rfl ?_
    refine x_iload_n C rfl rfl (dkAt dk_X12_setHorizon 4 rfl) 9 rfl ?_
    refine x_i2l C (dkAt dk_X12_setHorizon 5 rfl) 10 rfl ?_
    refine x_lconst C (v := (1 : Int64)) (by decide) (dkAt dk_X12_setHorizon 6 rfl) 11 rfl ?_
    refine x_ldc2 C (v := (5 : Int64)) cl_RX12_319 (dkAt dk_X12_setHorizon 7 rfl) 14 rfl ?_
    obtain ⟨v3, M4, h15, hf⟩ := cl_inv hf
    refine x_cSi C (c_X12_in hN h15) mw_X12_in ln_RX12_137 ms_X12_in (ro_of (by decide) (by decide) (by decide) (by decide)) rfl rfl (Nat.le_of_ble_eq_true rfl) (dkAt dk_X12_setHorizon 8 rfl) 17 rfl 0 0 rfl rfl ?_
    refine x_join hf (fun t5 => G Γ X M4 0 0 [some (.ref (wad Γ 108)), some (.int p0)] [.int t5, .ref (wad Γ 108)] 25) (fun t5 hf => ?_) (fun j14 hj14 hf => ?_)
    · refine x_iconst C (v := (2 : Int32)) (by decide) (dkAt dk_X12_setHorizon 13 rfl) 26 rfl ?_
      obtain ⟨v6, M7, h13, hf⟩ := cl_inv hf
      refine x_cVi C (c_X12_refuse hN h13) mw_X12_refuse ln_RX12_68 mi_X12_refuse (hN.rc (ci := 12) sh108 rc12) (ro_of (by decide) (by decide) (by decide) (by decide)) rfl rfl (Nat.le_of_ble_eq_true rfl) (dkAt dk_X12_setHorizon 14 rfl) 29 rfl 0 0 rfl rfl ?_
      refine x_if_eq C 34 (dkAt dk_X12_setHorizon 15 rfl) 32 rfl (by decide) hf (fun hf => ?_) (fun hf => ?_)
      · refine x_aload_n C rfl rfl (dkAt dk_X12_setHorizon 18 rfl) 35 rfl ?_
        obtain ⟨v8, M9, h12, hf⟩ := cl_inv hf
        refine x_cVv C (c_X12_keepsAll hN h12) mw_X12_keepsAll ln_RX12_400 mi_X12_keepsAll (hN.rc (ci := 12) sh108 rc12) (ro_of (by decide) (by decide) (by decide) (by decide)) rfl rfl (Nat.le_of_ble_eq_true rfl) (dkAt dk_X12_setHorizon 19 rfl) 38 rfl 0 0 rfl rfl ?_
        refine x_aload_n C rfl rfl (dkAt dk_X12_setHorizon 20 rfl) 39 rfl ?_
        refine x_getS C lk_RX12_7 (hN.sh sh108) (hN.sr sr108_2) (dkAt dk_X12_setHorizon 21 rfl) 42 rfl ?_
        refine x_iconst C (v := (1 : Int32)) (by decide) (dkAt dk_X12_setHorizon 22 rfl) 43 rfl ?_
        refine x_iald C (hN.sh sh109) (dkAt dk_X12_setHorizon 23 rfl) 44 rfl hf (fun v10 hf => ?_)
        refine x_istore_n C (L1 := [some (.ref (wad Γ 108)), some (.int p0), some (.int v10)]) (dkAt dk_X12_setHorizon 24 rfl) 45 rfl rfl (by decide) rfl ?_
        refine x_aload_n C rfl rfl (dkAt dk_X12_setHorizon 25 rfl) 46 rfl ?_
        refine x_getS C lk_RX12_7 (hN.sh sh108) (hN.sr sr108_2) (dkAt dk_X12_setHorizon 26 rfl) 49 rfl ?_
        refine x_iconst C (v := (1 : Int32)) (by decide) (dkAt dk_X12_setHorizon 27 rfl) 50 rfl ?_
        refine x_iload_n C rfl rfl (dkAt dk_X12_setHorizon 28 rfl) 51 rfl ?_
        refine x_iast C (hN.sh sh109) (dkAt dk_X12_setHorizon 29 rfl) 52 rfl hf (fun M11 hf => ?_)
        refine x_iload_n C rfl rfl (dkAt dk_X12_setHorizon 30 rfl) 53 rfl ?_
        exact x_iret C E hf (by decide) (by decide) (dkAt dk_X12_setHorizon 31 rfl)
      · refine x_iconst C (v := (0 : Int32)) (by decide) (dkAt dk_X12_setHorizon 16 rfl) 33 rfl ?_
        exact x_iret C E hf (by decide) (by decide) (dkAt dk_X12_setHorizon 17 rfl)
    · refine x_if_ne C 24 (dkAt dk_X12_setHorizon 9 rfl) 20 rfl (by decide) hf (fun hf => ?_) (fun hf => ?_)
      · refine x_iconst C (v := (0 : Int32)) (by decide) (dkAt dk_X12_setHorizon 12 rfl) 25 rfl ?_
        exact G.weak (L := [some (.ref (wad Γ 108)), some (.int p0)]) ⟨rfl, rfl, trivial⟩ (hj14 _ hf)
      · refine x_iconst C (v := (1 : Int32)) (by decide) (dkAt dk_X12_setHorizon 10 rfl) 21 rfl ?_
        refine x_goto C 25 (dkAt dk_X12_setHorizon 11 rfl) (by decide) ?_
        exact G.weak (L := [some (.ref (wad Γ 108)), some (.int p0)]) ⟨rfl, rfl, trivial⟩ (hj14 _ hf)
def f_X12_walk (Z : Nat) (M : Mem)  : Option (Int32 × Mem) :=
  cl (f_X12_noChain Z M) (fun v1 M2 => (if v1 = 0 then cl (f_X12_keepsAll Z M2) (fun v3 M4 => cl (f_X12_walks Z M4) (fun v5 M6 => rdI M6 109 54 (3 : Int32) (fun v7 => rdI M6 109 54 ((43 : Int32) + v7) (fun v8 => some (v8, M6))))) else some ((0 : Int32), M2)))
set_option maxRecDepth 100000 in
theorem c_X12_walk {Γ : WC} (hN : HN Γ) {Z : Nat} {M : Mem}  {rM : Int32 × Mem}  (hf : f_X12_walk Z M  = some rM) : Ct Γ yX12_walk cX12_walk 1 (some .int) (rmL 3 0 0) [.ref (wad Γ 108)] M (some (.int rM.1)) rM.2 := by
  refine mkN hN.1 (own := RX12) rfl (by decide) (Nat.le_of_ble_eq_true rfl) (fun X C E => ?_)
  change G Γ X M 0 0 [some (.ref (wad Γ 108))] [] 0
  unfold f_X12_walk at hf
  refine x_aload_n C rfl rfl (dkAt dk_X12_walk 0 rfl) 1 rfl ?_
  obtain ⟨v1, M2, h11, hf⟩ := cl_inv hf
  refine x_cVi C (c_X12_noChain hN h11) mw_X12_noChain ln_RX12_222 mi_X12_noChain (hN.rc (ci := 12) sh108 rc12) (ro_of (by decide) (by decide) (by decide) (by decide)) rfl rfl (Nat.le_of_ble_eq_true rfl) (dkAt dk_X12_walk 1 rfl) 4 rfl 0 0 rfl rfl ?_
  refine x_if_eq C 9 (dkAt dk_X12_walk 2 rfl) 7 rfl (by decide) hf (fun hf => ?_) (fun hf => ?_)
  · refine x_aload_n C rfl rfl (dkAt dk_X12_walk 5 rfl) 10 rfl ?_
    obtain ⟨v3, M4, h10, hf⟩ := cl_inv hf
    refine x_cVv C (c_X12_keepsAll hN h10) mw_X12_keepsAll ln_RX12_400 mi_X12_keepsAll (hN.rc (ci := 12) sh108 rc12) (ro_of (by decide) (by decide) (by decide) (by decide)) rfl rfl (Nat.le_of_ble_eq_true rfl) (dkAt dk_X12_walk 6 rfl) 13 rfl 0 0 rfl rfl ?_
    refine x_aload_n C rfl rfl (dkAt dk_X12_walk 7 rfl) 14 rfl ?_
    obtain ⟨v5, M6, h9, hf⟩ := cl_inv hf
    refine x_cVv C (c_X12_walks hN h9) mw_X12_walks ln_RX12_382 mi_X12_walks (hN.rc (ci := 12) sh108 rc12) (ro_of (by decide) (by decide) (by decide) (by decide)) rfl rfl (Nat.le_of_ble_eq_true rfl) (dkAt dk_X12_walk 8 rfl) 17 rfl 0 0 rfl rfl ?_
    refine x_aload_n C rfl rfl (dkAt dk_X12_walk 9 rfl) 18 rfl ?_
    refine x_getS C lk_RX12_7 (hN.sh sh108) (hN.sr sr108_2) (dkAt dk_X12_walk 10 rfl) 21 rfl ?_
    refine x_bipush C (v := (43 : Int32)) (by decide) (dkAt dk_X12_walk 11 rfl) 23 rfl ?_
    refine x_aload_n C rfl rfl (dkAt dk_X12_walk 12 rfl) 24 rfl ?_
    refine x_getS C lk_RX12_7 (hN.sh sh108) (hN.sr sr108_2) (dkAt dk_X12_walk 13 rfl) 27 rfl ?_
    refine x_iconst C (v := (3 : Int32)) (by decide) (dkAt dk_X12_walk 14 rfl) 28 rfl ?_
    refine x_iald C (hN.sh sh109) (dkAt dk_X12_walk 15 rfl) 29 rfl hf (fun v7 hf => ?_)
    refine x_iadd C (dkAt dk_X12_walk 16 rfl) 30 rfl ?_
    refine x_iald C (hN.sh sh109) (dkAt dk_X12_walk 17 rfl) 31 rfl hf (fun v8 hf => ?_)
    exact x_iret C E hf (by decide) (by decide) (dkAt dk_X12_walk 18 rfl)
  · refine x_iconst C (v := (0 : Int32)) (by decide) (dkAt dk_X12_walk 3 rfl) 8 rfl ?_
    exact x_iret C E hf (by decide) (by decide) (dkAt dk_X12_walk 4 rfl)
def f_X12_undo (Z : Nat) (M : Mem)  : Option (Int32 × Mem) :=
  bd (sI M (108) 0 (0 : Int32)) (fun M1 => bd (gI M1 (108) 4) (fun v2 => jn (fun (t3 : Int32) => cl (f_X12_refuse Z M1 t3 (1 : Int32)) (fun v4 M5 => (if v4 = 0 then bd (gI M5 (108) 4) (fun v6 => bd (sI M5 (108) 4 (v6 - (1 : Int32))) (fun M7 => bd (gI M7 (108) 4) (fun v8 => cl (f_X12_fetches Z M7 ((1 : Int32) + v8)) (fun v9 M10 => bd (gI M10 (108) 4) (fun v11 => some (v11, M10)))))) else some ((0 : Int32), M5)))) (fun j14 => (if v2 = 0 then j14 (1 : Int32) else j14 (0 : Int32)))))
set_option maxRecDepth 100000 in
theorem c_X12_undo {Γ : WC} (hN : HN Γ) {Z : Nat} {M : Mem}  {rM : Int32 × Mem}  (hf : f_X12_undo Z M  = some rM) : Ct Γ yX12_undo cX12_undo 1 (some .int) (rmL 1 0 0) [.ref (wad Γ 108)] M (some (.int rM.1)) rM.2 := by
  refine mkN hN.1 (own := RX12) rfl (by decide) (Nat.le_of_ble_eq_true rfl) (fun X C E => ?_)
  change G Γ X M 0 0 [some (.ref (wad Γ 108))] [] 0
  unfold f_X12_undo at hf
  refine x_aload_n C rfl rfl (dkAt dk_X12_undo 0 rfl) 1 rfl ?_
  refine x_iconst C (v := (0 : Int32)) (by decide) (dkAt dk_X12_undo 1 rfl) 2 rfl ?_
  refine x_putI C pk_RX12_61 ⟨_, rfl⟩ (hN.sh sh108) (dkAt dk_X12_undo 2 rfl) 5 rfl hf (fun M1 hf => ?_)
  refine x_aload_n C rfl rfl (dkAt dk_X12_undo 3 rfl) 6 rfl ?_
  refine x_aload_n C rfl rfl (dkAt dk_X12_undo 4 rfl) 7 rfl ?_
  refine x_getI C lk_RX12_213 (hN.sh sh108) (dkAt dk_X12_undo 5 rfl) 10 rfl hf (fun v2 hf => ?_)
  refine x_join hf (fun t3 => G Γ X M1 0 0 [some (.ref (wad Γ 108))] [.int t3, .ref (wad Γ 108)] 18) (fun t3 hf => ?_) (fun j14 hj14 hf => ?_)
  · refine x_iconst C (v := (1 : Int32)) (by decide) (dkAt dk_X12_undo 10 rfl) 19 rfl ?_
    obtain ⟨v4, M5, h13, hf⟩ := cl_inv hf
    refine x_cVi C (c_X12_refuse hN h13) mw_X12_refuse ln_RX12_68 mi_X12_refuse (hN.rc (ci := 12) sh108 rc12) (ro_of (by decide) (by decide) (by decide) (by decide)) rfl rfl (Nat.le_of_ble_eq_true rfl) (dkAt dk_X12_undo 11 rfl) 22 rfl 0 0 rfl rfl ?_
    refine x_if_eq C 27 (dkAt dk_X12_undo 12 rfl) 25 rfl (by decide) hf (fun hf => ?_) (fun hf => ?_)
    · refine x_aload_n C rfl rfl (dkAt dk_X12_undo 15 rfl) 28 rfl ?_
      refine x_dup C rfl (dkAt dk_X12_undo 16 rfl) 29 rfl ?_
      refine x_getI C lk_RX12_213 (hN.sh sh108) (dkAt dk_X12_undo 17 rfl) 32 rfl hf (fun v6 hf => ?_)
      refine x_iconst C (v := (1 : Int32)) (by decide) (dkAt dk_X12_undo 18 rfl) 33 rfl ?_
      refine x_isub C (dkAt dk_X12_undo 19 rfl) 34 rfl ?_
      refine x_putI C pk_RX12_213 ⟨_, rfl⟩ (hN.sh sh108) (dkAt dk_X12_undo 20 rfl) 37 rfl hf (fun M7 hf => ?_)
      refine x_aload_n C rfl rfl (dkAt dk_X12_undo 21 rfl) 38 rfl ?_
      refine x_iconst C (v := (1 : Int32)) (by decide) (dkAt dk_X12_undo 22 rfl) 39 rfl ?_
      refine x_aload_n C rfl rfl (dkAt dk_X12_undo 23 rfl) 40 rfl ?_
      refine x_getI C lk_RX12_213 (hN.sh sh108) (dkAt dk_X12_undo 24 rfl) 43 rfl hf (fun v8 hf => ?_)
      refine x_iadd C (dkAt dk_X12_undo 25 rfl) 44 rfl ?_
      obtain ⟨v9, M10, h12, hf⟩ := cl_inv hf
      refine x_cVv C (c_X12_fetches hN h12) mw_X12_fetches ln_RX12_355 mi_X12_fetches (hN.rc (ci := 12) sh108 rc12) (ro_of (by decide) (by decide) (by decide) (by decide)) rfl rfl (Nat.le_of_ble_eq_true rfl) (dkAt dk_X12_undo 26 rfl) 47 rfl 0 0 rfl rfl ?_
      refine x_aload_n C rfl rfl (dkAt dk_X12_undo 27 rfl) 48 rfl ?_
      refine x_getI C lk_RX12_213 (hN.sh sh108) (dkAt dk_X12_undo 28 rfl) 51 rfl hf (fun v11 hf => ?_)
      exact x_iret C E hf (by decide) (by decide) (dkAt dk_X12_undo 29 rfl)
    · refine x_iconst C (v := (0 : Int32)) (by decide) (dkAt dk_X12_undo 13 rfl) 26 rfl ?_
      exact x_iret C E hf (by decide) (by decide) (dkAt dk_X12_undo 14 rfl)
  · refine x_if_ne C 17 (dkAt dk_X12_undo 6 rfl) 13 rfl (by decide) hf (fun hf => ?_) (fun hf => ?_)
    · refine x_iconst C (v := (0 : Int32)) (by decide) (dkAt dk_X12_undo 9 rfl) 18 rfl ?_
      exact G.weak (L := [some (.ref (wad Γ 108))]) ⟨rfl, trivial⟩ (hj14 _ hf)
    · refine x_iconst C (v := (1 : Int32)) (by decide) (dkAt dk_X12_undo 7 rfl) 14 rfl ?_
      refine x_goto C 18 (dkAt dk_X12_undo 8 rfl) (by decide) ?_
      exact G.weak (L := [some (.ref (wad Γ 108))]) ⟨rfl, trivial⟩ (hj14 _ hf)
def f_X12_save (Z : Nat) (M : Mem) (p0 : Int32) : Option (Int32 × Mem) :=
  cl (f_X12_noChain Z M) (fun v1 M2 => (if v1 = 0 then cl (f_X12_in Z M2 p0.toInt64 (0 : Int64) (1 : Int64)) (fun v3 M4 => jn (fun (t5 : Int32) => cl (f_X12_refuse Z M4 t5 (2 : Int32)) (fun v6 M7 => (if v6 = 0 then cl (f_X12_keeps Z M7 ((8 : Int32) + p0)) (fun v8 M9 => wrZ M9 111 2 p0 (1 : Int32) (fun M10 => rdI M10 109 54 (2 : Int32) (fun v11 => some (v11, M10)))) else some ((0 : Int32), M7)))) (fun j14 => (if v3 = 0 then j14 (1 : Int32) else j14 (0 : Int32)))) else some ((0 : Int32), M2)))
set_option maxRecDepth 100000 in
theorem c_X12_save {Γ : WC} (hN : HN Γ) {Z : Nat} {M : Mem} {p0 : Int32} {rM : Int32 × Mem}  (hf : f_X12_save Z M p0 = some rM) : Ct Γ yX12_save cX12_save 2 (some .int) (rmL 2 0 0) [.ref (wad Γ 108), .int p0] M (some (.int rM.1)) rM.2 := by
  refine mkN hN.1 (own := RX12) rfl (by decide) (Nat.le_of_ble_eq_true rfl) (fun X C E => ?_)
  change G Γ X M 0 0 [some (.ref (wad Γ 108)), some (.int p0)] [] 0
  unfold f_X12_save at hf
  refine x_aload_n C rfl rfl (dkAt dk_X12_save 0 rfl) 1 rfl ?_
  obtain ⟨v1, M2, h16, hf⟩ := cl_inv hf
  refine x_cVi C (c_X12_noChain hN h16) mw_X12_noChain ln_RX12_222 mi_X12_noChain (hN.rc (ci := 12) sh108 rc12) (ro_of (by decide) (by decide) (by decide) (by decide)) rfl rfl (Nat.le_of_ble_eq_true rfl) (dkAt dk_X12_save 1 rfl) 4 rfl 0 0 rfl rfl ?_
  refine x_if_ne C 30 (dkAt dk_X12_save 2 rfl) 7 rfl (by decide) hf (fun hf => ?_) (fun hf => ?_)
  · refine x_iconst C (v := (0 : Int32)) (by decide) (dkAt dk_X12_save 16 rfl) 31 rfl ?_
    exact x_iret C E hf (by decide) (by decide) (dkAt dk_X12_save 17 rfl)
  · refine x_aload_n C rfl rfl (dkAt dk_X12_save 3 rfl) 8 rfl ?_
    refine x_iload_n C rfl rfl (dkAt dk_X12_save 4 rfl) 9 rfl ?_
    refine x_i2l C (dkAt dk_X12_save 5 rfl) 10 rfl ?_
    refine x_lconst C (v := (0 : Int64)) (by decide) (dkAt dk_X12_save 6 rfl) 11 rfl ?_
    refine x_lconst C (v := (1 : Int64)) (by decide) (dkAt dk_X12_save 7 rfl) 12 rfl ?_
    obtain ⟨v3, M4, h15, hf⟩ := cl_inv hf
    refine x_cSi C (c_X12_in hN h15) mw_X12_in ln_RX12_137 ms_X12_in (ro_of (by decide) (by decide) (by decide) (by decide)) rfl rfl (Nat.le_of_ble_eq_true rfl) (dkAt dk_X12_save 8 rfl) 15 rfl 0 0 rfl rfl ?_
    refine x_join hf (fun t5 => G Γ X M4 0 0 [some (.ref (wad Γ 108)), some (.int p0)] [.int t5, .ref (wad Γ 108)] 23) (fun t5 hf => ?_) (fun j14 hj14 hf => ?_)
    · refine x_iconst C (v := (2 : Int32)) (by decide) (dkAt dk_X12_save 13 rfl) 24 rfl ?_
      obtain ⟨v6, M7, h13, hf⟩ := cl_inv hf
      refine x_cVi C (c_X12_refuse hN h13) mw_X12_refuse ln_RX12_68 mi_X12_refuse (hN.rc (ci := 12) sh108 rc12) (ro_of (by decide) (by decide) (by decide) (by decide)) rfl rfl (Nat.le_of_ble_eq_true rfl) (dkAt dk_X12_save 14 rfl) 27 rfl 0 0 rfl rfl ?_
      refine x_if_eq C 32 (dkAt dk_X12_save 15 rfl) 30 rfl (by decide) hf (fun hf => ?_) (fun hf => ?_)
      · refine x_aload_n C rfl rfl (dkAt dk_X12_save 18 rfl) 33 rfl ?_
        refine x_bipush C (v := (8 : Int32)) (by decide) (dkAt dk_X12_save 19 rfl) 35 rfl ?_
        refine x_iload_n C rfl rfl (dkAt dk_X12_save 20 rfl) 36 rfl ?_
        refine x_iadd C (dkAt dk_X12_save 21 rfl) 37 rfl ?_
        obtain ⟨v8, M9, h12, hf⟩ := cl_inv hf
        refine x_cVv C (c_X12_keeps hN h12) mw_X12_keeps ln_RX12_324 mi_X12_keeps (hN.rc (ci := 12) sh108 rc12) (ro_of (by decide) (by decide) (by decide) (by decide)) rfl rfl (Nat.le_of_ble_eq_true rfl) (dkAt dk_X12_save 22 rfl) 40 rfl 0 0 rfl rfl ?_
        refine x_aload_n C rfl rfl (dkAt dk_X12_save 23 rfl) 41 rfl ?_
        refine x_getS C lk_RX12_16 (hN.sh sh108) (hN.sr sr108_5) (dkAt dk_X12_save 24 rfl) 44 rfl ?_
        refine x_iload_n C rfl rfl (dkAt dk_X12_save 25 rfl) 45 rfl ?_
        refine x_iconst C (v := (1 : Int32)) (by decide) (dkAt dk_X12_save 26 rfl) 46 rfl ?_
        refine x_zast C (hN.sh sh111) (dkAt dk_X12_save 27 rfl) 47 rfl hf (fun M10 hf => ?_)
        refine x_aload_n C rfl rfl (dkAt dk_X12_save 28 rfl) 48 rfl ?_
        refine x_getS C lk_RX12_7 (hN.sh sh108) (hN.sr sr108_2) (dkAt dk_X12_save 29 rfl) 51 rfl ?_
        refine x_iconst C (v := (2 : Int32)) (by decide) (dkAt dk_X12_save 30 rfl) 52 rfl ?_
        refine x_iald C (hN.sh sh109) (dkAt dk_X12_save 31 rfl) 53 rfl hf (fun v11 hf => ?_)
        exact x_iret C E hf (by decide) (by decide) (dkAt dk_X12_save 32 rfl)
      · refine x_iconst C (v := (0 : Int32)) (by decide) (dkAt dk_X12_save 16 rfl) 31 rfl ?_
        exact x_iret C E hf (by decide) (by decide) (dkAt dk_X12_save 17 rfl)
    · refine x_if_ne C 22 (dkAt dk_X12_save 9 rfl) 18 rfl (by decide) hf (fun hf => ?_) (fun hf => ?_)
      · refine x_iconst C (v := (0 : Int32)) (by decide) (dkAt dk_X12_save 12 rfl) 23 rfl ?_
        exact G.weak (L := [some (.ref (wad Γ 108)), some (.int p0)]) ⟨rfl, rfl, trivial⟩ (hj14 _ hf)
      · refine x_iconst C (v := (1 : Int32)) (by decide) (dkAt dk_X12_save 10 rfl) 19 rfl ?_
        refine x_goto C 23 (dkAt dk_X12_save 11 rfl) (by decide) ?_
        exact G.weak (L := [some (.ref (wad Γ 108)), some (.int p0)]) ⟨rfl, rfl, trivial⟩ (hj14 _ hf)
def f_X12_restore (Z : Nat) (M : Mem) (p0 : Int32) : Option (Int32 × Mem) :=
  bd (sI M (108) 0 (0 : Int32)) (fun M1 => cl (f_X12_in Z M1 p0.toInt64 (0 : Int64) (1 : Int64)) (fun v2 M3 => jn (fun (t4 : Int32) => cl (f_X12_refuse Z M3 t4 (1 : Int32)) (fun v5 M6 => (if v5 = 0 then rdI M6 111 2 p0 (fun v7 => jn (fun (t8 : Int32) => cl (f_X12_refuse Z M6 t8 (2 : Int32)) (fun v9 M10 => (if v9 = 0 then cl (f_X12_fetches Z M10 ((8 : Int32) + p0)) (fun v11 M12 => bd (sI M12 (108) 4 (0 : Int32)) (fun M13 => rdI M13 109 54 (2 : Int32) (fun v14 => some (v14, M13)))) else some ((0 : Int32), M10)))) (fun j17 => (if v7 = 0 then j17 (1 : Int32) else j17 (0 : Int32)))) else some ((0 : Int32), M6)))) (fun j19 => (if v2 = 0 then j19 (1 : Int32) else j19 (0 : Int32)))))
set_option maxRecDepth 100000 in
theorem c_X12_restore {Γ : WC} (hN : HN Γ) {Z : Nat} {M : Mem} {p0 : Int32} {rM : Int32 × Mem}  (hf : f_X12_restore Z M p0 = some rM) : Ct Γ yX12_restore cX12_restore 2 (some .int) (rmL 1 0 0) [.ref (wad Γ 108), .int p0] M (some (.int rM.1)) rM.2 := by
  refine mkN hN.1 (own := RX12) rfl (by decide) (Nat.le_of_ble_eq_true rfl) (fun X C E => ?_)
  change G Γ X M 0 0 [some (.ref (wad Γ 108)), some (.int p0)] [] 0
  unfold f_X12_restore at hf
  refine x_aload_n C rfl rfl (dkAt dk_X12_restore 0 rfl) 1 rfl ?_
  refine x_iconst C (v := (0 : Int32)) (by decide) (dkAt dk_X12_restore 1 rfl) 2 rfl ?_
  refine x_putI C pk_RX12_61 ⟨_, rfl⟩ (hN.sh sh108) (dkAt dk_X12_restore 2 rfl) 5 rfl hf (fun M1 hf => ?_)
  refine x_aload_n C rfl rfl (dkAt dk_X12_restore 3 rfl) 6 rfl ?_
  refine x_iload_n C rfl rfl (dkAt dk_X12_restore 4 rfl) 7 rfl ?_
  refine x_i2l C (dkAt dk_X12_restore 5 rfl) 8 rfl ?_
  refine x_lconst C (v := (0 : Int64)) (by decide) (dkAt dk_X12_restore 6 rfl) 9 rfl ?_
  refine x_lconst C (v := (1 : Int64)) (by decide) (dkAt dk_X12_restore 7 rfl) 10 rfl ?_
  obtain ⟨v2, M3, h20, hf⟩ := cl_inv hf
  refine x_cSi C (c_X12_in hN h20) mw_X12_in ln_RX12_137 ms_X12_in (ro_of (by decide) (by decide) (by decide) (by decide)) rfl rfl (Nat.le_of_ble_eq_true rfl) (dkAt dk_X12_restore 8 rfl) 13 rfl 0 0 rfl rfl ?_
  refine x_join hf (fun t4 => G Γ X M3 0 0 [some (.ref (wad Γ 108)), some (.int p0)] [.int t4, .ref (wad Γ 108)] 21) (fun t4 hf => ?_) (fun j19 hj19 hf => ?_)
  · refine x_iconst C (v := (1 : Int32)) (by decide) (dkAt dk_X12_restore 13 rfl) 22 rfl ?_
    obtain ⟨v5, M6, h18, hf⟩ := cl_inv hf
    refine x_cVi C (c_X12_refuse hN h18) mw_X12_refuse ln_RX12_68 mi_X12_refuse (hN.rc (ci := 12) sh108 rc12) (ro_of (by decide) (by decide) (by decide) (by decide)) rfl rfl (Nat.le_of_ble_eq_true rfl) (dkAt dk_X12_restore 14 rfl) 25 rfl 0 0 rfl rfl ?_
    refine x_if_ne C 50 (dkAt dk_X12_restore 15 rfl) 28 rfl (by decide) hf (fun hf => ?_) (fun hf => ?_)
    · refine x_iconst C (v := (0 : Int32)) (by decide) (dkAt dk_X12_restore 28 rfl) 51 rfl ?_
      exact x_iret C E hf (by decide) (by decide) (dkAt dk_X12_restore 29 rfl)
    · refine x_aload_n C rfl rfl (dkAt dk_X12_restore 16 rfl) 29 rfl ?_
      refine x_aload_n C rfl rfl (dkAt dk_X12_restore 17 rfl) 30 rfl ?_
      refine x_getS C lk_RX12_16 (hN.sh sh108) (hN.sr sr108_5) (dkAt dk_X12_restore 18 rfl) 33 rfl ?_
      refine x_iload_n C rfl rfl (dkAt dk_X12_restore 19 rfl) 34 rfl ?_
      refine x_zald C (hN.sh sh111) (dkAt dk_X12_restore 20 rfl) 35 rfl hf (fun v7 hf => ?_)
      refine x_join hf (fun t8 => G Γ X M6 0 0 [some (.ref (wad Γ 108)), some (.int p0)] [.int t8, .ref (wad Γ 108)] 43) (fun t8 hf => ?_) (fun j17 hj17 hf => ?_)
      · refine x_iconst C (v := (2 : Int32)) (by decide) (dkAt dk_X12_restore 25 rfl) 44 rfl ?_
        obtain ⟨v9, M10, h16, hf⟩ := cl_inv hf
        refine x_cVi C (c_X12_refuse hN h16) mw_X12_refuse ln_RX12_68 mi_X12_refuse (hN.rc (ci := 12) sh108 rc12) (ro_of (by decide) (by decide) (by decide) (by decide)) rfl rfl (Nat.le_of_ble_eq_true rfl) (dkAt dk_X12_restore 26 rfl) 47 rfl 0 0 rfl rfl ?_
        refine x_if_eq C 52 (dkAt dk_X12_restore 27 rfl) 50 rfl (by decide) hf (fun hf => ?_) (fun hf => ?_)
        · refine x_aload_n C rfl rfl (dkAt dk_X12_restore 30 rfl) 53 rfl ?_
          refine x_bipush C (v := (8 : Int32)) (by decide) (dkAt dk_X12_restore 31 rfl) 55 rfl ?_
          refine x_iload_n C rfl rfl (dkAt dk_X12_restore 32 rfl) 56 rfl ?_
          refine x_iadd C (dkAt dk_X12_restore 33 rfl) 57 rfl ?_
          obtain ⟨v11, M12, h15, hf⟩ := cl_inv hf
          refine x_cVv C (c_X12_fetches hN h15) mw_X12_fetches ln_RX12_355 mi_X12_fetches (hN.rc (ci := 12) sh108 rc12) (ro_of (by decide) (by decide) (by decide) (by decide)) rfl rfl (Nat.le_of_ble_eq_true rfl) (dkAt dk_X12_restore 34 rfl) 60 rfl 0 0 rfl rfl ?_
          refine x_aload_n C rfl rfl (dkAt dk_X12_restore 35 rfl) 61 rfl ?_
          refine x_iconst C (v := (0 : Int32)) (by decide) (dkAt dk_X12_restore 36 rfl) 62 rfl ?_
          refine x_putI C pk_RX12_213 ⟨_, rfl⟩ (hN.sh sh108) (dkAt dk_X12_restore 37 rfl) 65 rfl hf (fun M13 hf => ?_)
          refine x_aload_n C rfl rfl (dkAt dk_X12_restore 38 rfl) 66 rfl ?_
          refine x_getS C lk_RX12_7 (hN.sh sh108) (hN.sr sr108_2) (dkAt dk_X12_restore 39 rfl) 69 rfl ?_
          refine x_iconst C (v := (2 : Int32)) (by decide) (dkAt dk_X12_restore 40 rfl) 70 rfl ?_
          refine x_iald C (hN.sh sh109) (dkAt dk_X12_restore 41 rfl) 71 rfl hf (fun v14 hf => ?_)
          exact x_iret C E hf (by decide) (by decide) (dkAt dk_X12_restore 42 rfl)
        · refine x_iconst C (v := (0 : Int32)) (by decide) (dkAt dk_X12_restore 28 rfl) 51 rfl ?_
          exact x_iret C E hf (by decide) (by decide) (dkAt dk_X12_restore 29 rfl)
      · refine x_if_ne C 42 (dkAt dk_X12_restore 21 rfl) 38 rfl (by decide) hf (fun hf => ?_) (fun hf => ?_)
        · refine x_iconst C (v := (0 : Int32)) (by decide) (dkAt dk_X12_restore 24 rfl) 43 rfl ?_
          exact G.weak (L := [some (.ref (wad Γ 108)), some (.int p0)]) ⟨rfl, rfl, trivial⟩ (hj17 _ hf)
        · refine x_iconst C (v := (1 : Int32)) (by decide) (dkAt dk_X12_restore 22 rfl) 39 rfl ?_
          refine x_goto C 43 (dkAt dk_X12_restore 23 rfl) (by decide) ?_
          exact G.weak (L := [some (.ref (wad Γ 108)), some (.int p0)]) ⟨rfl, rfl, trivial⟩ (hj17 _ hf)
  · refine x_if_ne C 20 (dkAt dk_X12_restore 9 rfl) 16 rfl (by decide) hf (fun hf => ?_) (fun hf => ?_)
    · refine x_iconst C (v := (0 : Int32)) (by decide) (dkAt dk_X12_restore 12 rfl) 21 rfl ?_
      exact G.weak (L := [some (.ref (wad Γ 108)), some (.int p0)]) ⟨rfl, rfl, trivial⟩ (hj19 _ hf)
    · refine x_iconst C (v := (1 : Int32)) (by decide) (dkAt dk_X12_restore 10 rfl) 17 rfl ?_
      refine x_goto C 21 (dkAt dk_X12_restore 11 rfl) (by decide) ?_
      exact G.weak (L := [some (.ref (wad Γ 108)), some (.int p0)]) ⟨rfl, rfl, trivial⟩ (hj19 _ hf)
