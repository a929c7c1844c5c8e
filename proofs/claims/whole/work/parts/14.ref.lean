def f_X12_stepOf_L5 (Z : Nat) (p0 : Int32) (p1 : Int32) : Nat → Int32 → Int32 → Mem → Option (Int32 × Mem)
  | 0, _, _, _ => none
  | n + 1, x1, x2, M3 => rdI M3 112 344 ((8 : Int32) + p0) (fun v4 => (if v4 ≤ x2 then some (x1, M3) else cl (f_X12_weightOf Z M3 p0 x2) (fun v5 M6 => cl (f_X12_percentBy Z M6 p0 x2 p1) (fun v7 M8 => f_X12_stepOf_L5 Z p0 p1 n (x1 + (v5 * v7)) (x2 + (1 : Int32)) M8))))
def f_X12_stepOf (Z : Nat) (M : Mem) (p0 : Int32) (p1 : Int32) : Option (Int32 × Mem) :=
  f_X12_stepOf_L5 Z p0 p1 Z (0 : Int32) (0 : Int32) M
set_option maxRecDepth 100000 in
theorem l_X12_stepOf_L5 {Γ : WC} {X : MX} (hN : HN Γ) (C : CX Γ X cX12_stepOf 5 RX12 (some .int) (rmL 1 0 0)) {rM : Int32 × Mem} (E : EndN Γ X (some (.int rM.1)) rM.2 0 0) {Z : Nat} {p0 : Int32} {p1 : Int32} : ∀ (n : Nat) (x1 : Int32) (x2 : Int32) (M3 : Mem), f_X12_stepOf_L5 Z p0 p1 n x1 x2 M3 = some rM → G Γ X M3 0 0 [some (.ref (wad Γ 108)), some (.int p0), some (.int p1), some (.int x1), some (.int x2)] [] 5 := by
  intro n
  induction n with
  | zero =>
    intro x1 x2 M3 hf
    have hf0 : (none : Option _) = some rM := hf
    cases hf0
  | succ n ih =>
    intro x1 x2 M3 hf
    rw [f_X12_stepOf_L5] at hf
    refine x_iload C rfl (dkAt dk_X12_stepOf 4 rfl) 7 rfl ?_
    refine x_aload_n C rfl rfl (dkAt dk_X12_stepOf 5 rfl) 8 rfl ?_
    refine x_getS C lk_RX12_20 (hN.sh sh108) (hN.sr sr108_6) (dkAt dk_X12_stepOf 6 rfl) 11 rfl ?_
    refine x_bipush C (v := (8 : Int32)) (by decide) (dkAt dk_X12_stepOf 7 rfl) 13 rfl ?_
    refine x_iload_n C rfl rfl (dkAt dk_X12_stepOf 8 rfl) 14 rfl ?_
    refine x_iadd C (dkAt dk_X12_stepOf 9 rfl) 15 rfl ?_
    refine x_iald C (hN.sh sh112) (dkAt dk_X12_stepOf 10 rfl) 16 rfl hf (fun v4 hf => ?_)
    refine x_icmp_ge C 44 (dkAt dk_X12_stepOf 11 rfl) 19 rfl (by decide) hf (fun hf => ?_) (fun hf => ?_)
    · refine x_iload_n C rfl rfl (dkAt dk_X12_stepOf 27 rfl) 45 rfl ?_
      exact x_iret C E hf (by decide) (by decide) (dkAt dk_X12_stepOf 28 rfl)
    · refine x_iload_n C rfl rfl (dkAt dk_X12_stepOf 12 rfl) 20 rfl ?_
      refine x_aload_n C rfl rfl (dkAt dk_X12_stepOf 13 rfl) 21 rfl ?_
      refine x_iload_n C rfl rfl (dkAt dk_X12_stepOf 14 rfl) 22 rfl ?_
      refine x_iload C rfl (dkAt dk_X12_stepOf 15 rfl) 24 rfl ?_
      obtain ⟨v5, M6, h10, hf⟩ := cl_inv hf
      refine x_cVi C (c_X12_weightOf hN h10) mw_X12_weightOf ln_RX12_252 mi_X12_weightOf (hN.rc (ci := 12) sh108 rc12) (ro_of (by decide) (by decide) (by decide) (by decide)) rfl rfl (Nat.le_of_ble_eq_true rfl) (dkAt dk_X12_stepOf 16 rfl) 27 rfl 0 0 rfl rfl ?_
      refine x_aload_n C rfl rfl (dkAt dk_X12_stepOf 17 rfl) 28 rfl ?_
      refine x_iload_n C rfl rfl (dkAt dk_X12_stepOf 18 rfl) 29 rfl ?_
      refine x_iload C rfl (dkAt dk_X12_stepOf 19 rfl) 31 rfl ?_
      refine x_iload_n C rfl rfl (dkAt dk_X12_stepOf 20 rfl) 32 rfl ?_
      obtain ⟨v7, M8, h9, hf⟩ := cl_inv hf
      refine x_cVi C (c_X12_percentBy hN h9) mw_X12_percentBy ln_RX12_249 mi_X12_percentBy (hN.rc (ci := 12) sh108 rc12) (ro_of (by decide) (by decide) (by decide) (by decide)) rfl rfl (Nat.le_of_ble_eq_true rfl) (dkAt dk_X12_stepOf 21 rfl) 35 rfl 0 0 rfl rfl ?_
      refine x_imul C (dkAt dk_X12_stepOf 22 rfl) 36 rfl ?_
      refine x_iadd C (dkAt dk_X12_stepOf 23 rfl) 37 rfl ?_
      refine x_istore_n C (L1 := [some (.ref (wad Γ 108)), some (.int p0), some (.int p1), some (.int (x1 + (v5 * v7))), some (.int x2)]) (dkAt dk_X12_stepOf 24 rfl) 38 rfl rfl (by decide) rfl ?_
      refine x_iinc C (v := (x2 + (1 : Int32))) (L1 := [some (.ref (wad Γ 108)), some (.int p0), some (.int p1), some (.int (x1 + (v5 * v7))), some (.int (x2 + (1 : Int32)))]) (dkAt dk_X12_stepOf 25 rfl) 41 rfl rfl rfl (by decide) rfl ?_
      refine x_goto C 5 (dkAt dk_X12_stepOf 26 rfl) (by decide) ?_
      exact G.weak (L := [some (.ref (wad Γ 108)), some (.int p0), some (.int p1), some (.int (x1 + (v5 * v7))), some (.int (x2 + (1 : Int32)))]) ⟨rfl, rfl, rfl, rfl, rfl, trivial⟩ (ih _ _ _ hf)
set_option maxRecDepth 100000 in
theorem c_X12_stepOf {Γ : WC} (hN : HN Γ) {Z : Nat} {M : Mem} {p0 : Int32} {p1 : Int32} {rM : Int32 × Mem}  (hf : f_X12_stepOf Z M p0 p1 = some rM) : Ct Γ yX12_stepOf cX12_stepOf 5 (some .int) (rmL 1 0 0) [.ref (wad Γ 108), .int p0, .int p1] M (some (.int rM.1)) rM.2 := by
  refine mkN hN.1 (own := RX12) rfl (by decide) (Nat.le_of_ble_eq_true rfl) (fun X C E => ?_)
  change G Γ X M 0 0 [some (.ref (wad Γ 108)), some (.int p0), some (.int p1)] [] 0
  unfold f_X12_stepOf at hf
  refine x_iconst C (v := (0 : Int32)) (by decide) (dkAt dk_X12_stepOf 0 rfl) 1 rfl ?_
  refine x_istore_n C (L1 := [some (.ref (wad Γ 108)), some (.int p0), some (.int p1), some (.int (0 : Int32))]) (dkAt dk_X12_stepOf 1 rfl) 2 rfl rfl (by decide) rfl ?_
  refine x_iconst C (v := (0 : Int32)) (by decide) (dkAt dk_X12_stepOf 2 rfl) 3 rfl ?_
  refine x_istore C (L1 := [some (.ref (wad Γ 108)), some (.int p0), some (.int p1), some (.int (0 : Int32)), some (.int (0 : Int32))]) (dkAt dk_X12_stepOf 3 rfl) 5 rfl (by decide) rfl ?_
  refine G.weak (L := [some (.ref (wad Γ 108)), some (.int p0), some (.int p1), some (.int (0 : Int32)), some (.int (0 : Int32))]) ⟨rfl, rfl, rfl, rfl, rfl, trivial⟩ ?_
  refine l_X12_stepOf_L5 hN C E Z _ _ _ hf
def f_X12_lays_L2 (Z : Nat) (p0 : Int32) (k : Mem → Option (Unit × Mem)) : Nat → Int32 → Mem → Option (Unit × Mem)
  | 0, _, _ => none
  | n + 1, x1, M2 => (if (36 : Int32) ≤ x1 then k M2 else wrL M2 116 36 x1 (0 : Int64) (fun M3 => f_X12_lays_L2 Z p0 k n (x1 + (1 : Int32)) M3))
def f_X12_lays_L60 (Z : Nat) (p0 : Int32) (x7 : Int32) (x10 : Int32) (k : Mem → Option (Unit × Mem)) : Nat → Int32 → Mem → Option (Unit × Mem)
  | 0, _, _ => none
  | n + 1, x13, M14 => rdI M14 112 344 (0 : Int32) (fun v15 => (if v15 ≤ x13 then k M14 else (if x10 = p0 then k M14 else rdL M14 116 36 (((6 : Int32) * (x7 + (1 : Int32))) + x13) (fun v16 => rdL M14 116 36 (((6 : Int32) * x7) + x10) (fun v17 => cl (f_X12_stepOf Z M14 x10 x13) (fun v18 M19 => wrL M19 116 36 (((6 : Int32) * (x7 + (1 : Int32))) + x13) (v16 + (v17 * v18.toInt64)) (fun M20 => f_X12_lays_L60 Z p0 x7 x10 k n (x13 + (1 : Int32)) M20)))))))
def f_X12_lays_L47 (Z : Nat) (p0 : Int32) (x7 : Int32) (k : Mem → Option (Unit × Mem)) : Nat → Int32 → Mem → Option (Unit × Mem)
  | 0, _, _ => none
  | n + 1, x10, M11 => rdI M11 112 344 (0 : Int32) (fun v12 => (if v12 ≤ x10 then k M11 else f_X12_lays_L60 Z p0 x7 x10 (fun (M22 : Mem) => f_X12_lays_L47 Z p0 x7 k n (x10 + (1 : Int32)) M22) Z (0 : Int32) M11))
def f_X12_lays_L35 (Z : Nat) (p0 : Int32) : Nat → Int32 → Mem → Option (Unit × Mem)
  | 0, _, _ => none
  | n + 1, x7, M8 => rdI M8 109 54 (1 : Int32) (fun v9 => (if v9 ≤ x7 then some ((), M8) else f_X12_lays_L47 Z p0 x7 (fun (M23 : Mem) => f_X12_lays_L35 Z p0 n (x7 + (1 : Int32)) M23) Z (0 : Int32) M8))
def f_X12_lays (Z : Nat) (M : Mem) (p0 : Int32) : Option (Unit × Mem) :=
  f_X12_lays_L2 Z p0 (fun (M4 : Mem) => rdI M4 109 54 (0 : Int32) (fun v5 => wrL M4 116 36 v5 (1 : Int64) (fun M6 => f_X12_lays_L35 Z p0 Z (0 : Int32) M6))) Z (0 : Int32) M
set_option maxRecDepth 100000 in
theorem l_X12_lays_L2 {Γ : WC} {X : MX} (hN : HN Γ) (C : CX Γ X cX12_lays 5 RX12 none (rmL 2 0 0)) {rM : Unit × Mem} (E : EndN Γ X none rM.2 0 0) {Z : Nat} {p0 : Int32} {k : Mem → Option (Unit × Mem)} (hk : ∀  (Mx : Mem), k Mx = some rM → G Γ X Mx 0 0 [some (.ref (wad Γ 108)), some (.int p0)] [] 21) : ∀ (n : Nat) (x1 : Int32) (M2 : Mem), f_X12_lays_L2 Z p0 k n x1 M2 = some rM → G Γ X M2 0 0 [some (.ref (wad Γ 108)), some (.int p0), some (.int x1)] [] 2 := by
  intro n
  induction n with
  | zero =>
    intro x1 M2 hf
    have hf0 : (none : Option _) = some rM := hf
    cases hf0
  | succ n ih =>
    intro x1 M2 hf
    rw [f_X12_lays_L2] at hf
    refine x_iload_n C rfl rfl (dkAt dk_X12_lays 2 rfl) 3 rfl ?_
    refine x_bipush C (v := (36 : Int32)) (by decide) (dkAt dk_X12_lays 3 rfl) 5 rfl ?_
    refine x_icmp_ge C 21 (dkAt dk_X12_lays 4 rfl) 8 rfl (by decide) hf (fun hf => ?_) (fun hf => ?_)
    · exact G.weak (L := [some (.ref (wad Γ 108)), some (.int p0)]) ⟨rfl, rfl, trivial⟩ (hk _ hf)
    · refine x_aload_n C rfl rfl (dkAt dk_X12_lays 5 rfl) 9 rfl ?_
      refine x_getS C lk_RX12_36 (hN.sh sh108) (hN.sr sr108_21) (dkAt dk_X12_lays 6 rfl) 12 rfl ?_
      refine x_iload_n C rfl rfl (dkAt dk_X12_lays 7 rfl) 13 rfl ?_
      refine x_lconst C (v := (0 : Int64)) (by decide) (dkAt dk_X12_lays 8 rfl) 14 rfl ?_
      refine x_last C (hN.sh sh116) (dkAt dk_X12_lays 9 rfl) 15 rfl hf (fun M3 hf => ?_)
      refine x_iinc C (v := (x1 + (1 : Int32))) (L1 := [some (.ref (wad Γ 108)), some (.int p0), some (.int (x1 + (1 : Int32)))]) (dkAt dk_X12_lays 10 rfl) 18 rfl rfl rfl (by decide) rfl ?_
      refine x_goto C 2 (dkAt dk_X12_lays 11 rfl) (by decide) ?_
      exact G.weak (L := [some (.ref (wad Γ 108)), some (.int p0), some (.int (x1 + (1 : Int32)))]) ⟨rfl, rfl, rfl, trivial⟩ (ih _ _ hf)
set_option maxRecDepth 100000 in
theorem l_X12_lays_L60 {Γ : WC} {X : MX} (hN : HN Γ) (C : CX Γ X cX12_lays 5 RX12 none (rmL 2 0 0)) {rM : Unit × Mem} (E : EndN Γ X none rM.2 0 0) {Z : Nat} {p0 : Int32} {x7 : Int32} {x10 : Int32} {k : Mem → Option (Unit × Mem)} (hk : ∀  (Mx : Mem), k Mx = some rM → G Γ X Mx 0 0 [some (.ref (wad Γ 108)), some (.int p0), some (.int x7), some (.int x10)] [] 119) : ∀ (n : Nat) (x13 : Int32) (M14 : Mem), f_X12_lays_L60 Z p0 x7 x10 k n x13 M14 = some rM → G Γ X M14 0 0 [some (.ref (wad Γ 108)), some (.int p0), some (.int x7), some (.int x10), some (.int x13)] [] 60 := by
  intro n
  induction n with
  | zero =>
    intro x13 M14 hf
    have hf0 : (none : Option _) = some rM := hf
    cases hf0
  | succ n ih =>
    intro x13 M14 hf
    rw [f_X12_lays_L60] at hf
    refine x_iload C rfl (dkAt dk_X12_lays 38 rfl) 62 rfl ?_
    refine x_aload_n C rfl rfl (dkAt dk_X12_lays 39 rfl) 63 rfl ?_
    refine x_getS C lk_RX12_20 (hN.sh sh108) (hN.sr sr108_6) (dkAt dk_X12_lays 40 rfl) 66 rfl ?_
    refine x_iconst C (v := (0 : Int32)) (by decide) (dkAt dk_X12_lays 41 rfl) 67 rfl ?_
    refine x_iald C (hN.sh sh112) (dkAt dk_X12_lays 42 rfl) 68 rfl hf (fun v15 hf => ?_)
    refine x_icmp_ge C 119 (dkAt dk_X12_lays 43 rfl) 71 rfl (by decide) hf (fun hf => ?_) (fun hf => ?_)
    · exact G.weak (L := [some (.ref (wad Γ 108)), some (.int p0), some (.int x7), some (.int x10)]) ⟨rfl, rfl, rfl, rfl, trivial⟩ (hk _ hf)
    · refine x_iload_n C rfl rfl (dkAt dk_X12_lays 44 rfl) 72 rfl ?_
      refine x_iload_n C rfl rfl (dkAt dk_X12_lays 45 rfl) 73 rfl ?_
      refine x_icmp_eq C 119 (dkAt dk_X12_lays 46 rfl) 76 rfl (by decide) hf (fun hf => ?_) (fun hf => ?_)
      · exact G.weak (L := [some (.ref (wad Γ 108)), some (.int p0), some (.int x7), some (.int x10)]) ⟨rfl, rfl, rfl, rfl, trivial⟩ (hk _ hf)
      · refine x_aload_n C rfl rfl (dkAt dk_X12_lays 47 rfl) 77 rfl ?_
        refine x_getS C lk_RX12_36 (hN.sh sh108) (hN.sr sr108_21) (dkAt dk_X12_lays 48 rfl) 80 rfl ?_
        refine x_bipush C (v := (6 : Int32)) (by decide) (dkAt dk_X12_lays 49 rfl) 82 rfl ?_
        refine x_iload_n C rfl rfl (dkAt dk_X12_lays 50 rfl) 83 rfl ?_
        refine x_iconst C (v := (1 : Int32)) (by decide) (dkAt dk_X12_lays 51 rfl) 84 rfl ?_
        refine x_iadd C (dkAt dk_X12_lays 52 rfl) 85 rfl ?_
        refine x_imul C (dkAt dk_X12_lays 53 rfl) 86 rfl ?_
        refine x_iload C rfl (dkAt dk_X12_lays 54 rfl) 88 rfl ?_
        refine x_iadd C (dkAt dk_X12_lays 55 rfl) 89 rfl ?_
        refine x_dup2 C rfl rfl (dkAt dk_X12_lays 56 rfl) 90 rfl ?_
        refine x_lald C (hN.sh sh116) (dkAt dk_X12_lays 57 rfl) 91 rfl hf (fun v16 hf => ?_)
        refine x_aload_n C rfl rfl (dkAt dk_X12_lays 58 rfl) 92 rfl ?_
        refine x_getS C lk_RX12_36 (hN.sh sh108) (hN.sr sr108_21) (dkAt dk_X12_lays 59 rfl) 95 rfl ?_
        refine x_bipush C (v := (6 : Int32)) (by decide) (dkAt dk_X12_lays 60 rfl) 97 rfl ?_
        refine x_iload_n C rfl rfl (dkAt dk_X12_lays 61 rfl) 98 rfl ?_
        refine x_imul C (dkAt dk_X12_lays 62 rfl) 99 rfl ?_
        refine x_iload_n C rfl rfl (dkAt dk_X12_lays 63 rfl) 100 rfl ?_
        refine x_iadd C (dkAt dk_X12_lays 64 rfl) 101 rfl ?_
        refine x_lald C (hN.sh sh116) (dkAt dk_X12_lays 65 rfl) 102 rfl hf (fun v17 hf => ?_)
        refine x_aload_n C rfl rfl (dkAt dk_X12_lays 66 rfl) 103 rfl ?_
        refine x_iload_n C rfl rfl (dkAt dk_X12_lays 67 rfl) 104 rfl ?_
        refine x_iload C rfl (dkAt dk_X12_lays 68 rfl) 106 rfl ?_
        obtain ⟨v18, M19, h21, hf⟩ := cl_inv hf
        refine x_cVi C (c_X12_stepOf hN h21) mw_X12_stepOf ln_RX12_261 mi_X12_stepOf (hN.rc (ci := 12) sh108 rc12) (ro_of (by decide) (by decide) (by decide) (by decide)) rfl rfl (Nat.le_of_ble_eq_true rfl) (dkAt dk_X12_lays 69 rfl) 109 rfl 0 0 rfl rfl ?_
        refine x_i2l C (dkAt dk_X12_lays 70 rfl) 110 rfl ?_
        refine x_lmul C (dkAt dk_X12_lays 71 rfl) 111 rfl ?_
        refine x_ladd C (dkAt dk_X12_lays 72 rfl) 112 rfl ?_
        refine x_last C (hN.sh sh116) (dkAt dk_X12_lays 73 rfl) 113 rfl hf (fun M20 hf => ?_)
        refine x_iinc C (v := (x13 + (1 : Int32))) (L1 := [some (.ref (wad Γ 108)), some (.int p0), some (.int x7), some (.int x10), some (.int (x13 + (1 : Int32)))]) (dkAt dk_X12_lays 74 rfl) 116 rfl rfl rfl (by decide) rfl ?_
        refine x_goto C 60 (dkAt dk_X12_lays 75 rfl) (by decide) ?_
        exact G.weak (L := [some (.ref (wad Γ 108)), some (.int p0), some (.int x7), some (.int x10), some (.int (x13 + (1 : Int32)))]) ⟨rfl, rfl, rfl, rfl, rfl, trivial⟩ (ih _ _ hf)
set_option maxRecDepth 100000 in
theorem l_X12_lays_L47 {Γ : WC} {X : MX} (hN : HN Γ) (C : CX Γ X cX12_lays 5 RX12 none (rmL 2 0 0)) {rM : Unit × Mem} (E : EndN Γ X none rM.2 0 0) {Z : Nat} {p0 : Int32} {x7 : Int32} {k : Mem → Option (Unit × Mem)} (hk : ∀  (Mx : Mem), k Mx = some rM → G Γ X Mx 0 0 [some (.ref (wad Γ 108)), some (.int p0), some (.int x7)] [] 125) : ∀ (n : Nat) (x10 : Int32) (M11 : Mem), f_X12_lays_L47 Z p0 x7 k n x10 M11 = some rM → G Γ X M11 0 0 [some (.ref (wad Γ 108)), some (.int p0), some (.int x7), some (.int x10)] [] 47 := by
  intro n
  induction n with
  | zero =>
    intro x10 M11 hf
    have hf0 : (none : Option _) = some rM := hf
    cases hf0
  | succ n ih =>
    intro x10 M11 hf
    rw [f_X12_lays_L47] at hf
    refine x_iload_n C rfl rfl (dkAt dk_X12_lays 30 rfl) 48 rfl ?_
    refine x_aload_n C rfl rfl (dkAt dk_X12_lays 31 rfl) 49 rfl ?_
    refine x_getS C lk_RX12_20 (hN.sh sh108) (hN.sr sr108_6) (dkAt dk_X12_lays 32 rfl) 52 rfl ?_
    refine x_iconst C (v := (0 : Int32)) (by decide) (dkAt dk_X12_lays 33 rfl) 53 rfl ?_
    refine x_iald C (hN.sh sh112) (dkAt dk_X12_lays 34 rfl) 54 rfl hf (fun v12 hf => ?_)
    refine x_icmp_ge C 125 (dkAt dk_X12_lays 35 rfl) 57 rfl (by decide) hf (fun hf => ?_) (fun hf => ?_)
    · exact G.weak (L := [some (.ref (wad Γ 108)), some (.int p0), some (.int x7)]) ⟨rfl, rfl, rfl, trivial⟩ (hk _ hf)
    · refine x_iconst C (v := (0 : Int32)) (by decide) (dkAt dk_X12_lays 36 rfl) 58 rfl ?_
      refine x_istore C (L1 := [some (.ref (wad Γ 108)), some (.int p0), some (.int x7), some (.int x10), some (.int (0 : Int32))]) (dkAt dk_X12_lays 37 rfl) 60 rfl (by decide) rfl ?_
      refine G.weak (L := [some (.ref (wad Γ 108)), some (.int p0), some (.int x7), some (.int x10), some (.int (0 : Int32))]) ⟨rfl, rfl, rfl, rfl, rfl, trivial⟩ ?_
      refine l_X12_lays_L60 hN C E ?_ Z _ _ hf
      intro M22 hf
      refine x_iinc C (v := (x10 + (1 : Int32))) (L1 := [some (.ref (wad Γ 108)), some (.int p0), some (.int x7), some (.int (x10 + (1 : Int32)))]) (dkAt dk_X12_lays 76 rfl) 122 rfl rfl rfl (by decide) rfl ?_
      refine x_goto C 47 (dkAt dk_X12_lays 77 rfl) (by decide) ?_
      exact G.weak (L := [some (.ref (wad Γ 108)), some (.int p0), some (.int x7), some (.int (x10 + (1 : Int32)))]) ⟨rfl, rfl, rfl, rfl, trivial⟩ (ih _ _ hf)
set_option maxRecDepth 100000 in
theorem l_X12_lays_L35 {Γ : WC} {X : MX} (hN : HN Γ) (C : CX Γ X cX12_lays 5 RX12 none (rmL 2 0 0)) {rM : Unit × Mem} (E : EndN Γ X none rM.2 0 0) {Z : Nat} {p0 : Int32} : ∀ (n : Nat) (x7 : Int32) (M8 : Mem), f_X12_lays_L35 Z p0 n x7 M8 = some rM → G Γ X M8 0 0 [some (.ref (wad Γ 108)), some (.int p0), some (.int x7)] [] 35 := by
  intro n
  induction n with
  | zero =>
    intro x7 M8 hf
    have hf0 : (none : Option _) = some rM := hf
    cases hf0
  | succ n ih =>
    intro x7 M8 hf
    rw [f_X12_lays_L35] at hf
    refine x_iload_n C rfl rfl (dkAt dk_X12_lays 22 rfl) 36 rfl ?_
    refine x_aload_n C rfl rfl (dkAt dk_X12_lays 23 rfl) 37 rfl ?_
    refine x_getS C lk_RX12_7 (hN.sh sh108) (hN.sr sr108_2) (dkAt dk_X12_lays 24 rfl) 40 rfl ?_
    refine x_iconst C (v := (1 : Int32)) (by decide) (dkAt dk_X12_lays 25 rfl) 41 rfl ?_
    refine x_iald C (hN.sh sh109) (dkAt dk_X12_lays 26 rfl) 42 rfl hf (fun v9 hf => ?_)
    refine x_icmp_ge C 131 (dkAt dk_X12_lays 27 rfl) 45 rfl (by decide) hf (fun hf => ?_) (fun hf => ?_)
    · exact x_vret C E hf (by decide) (by decide) (dkAt dk_X12_lays 80 rfl)
    · refine x_iconst C (v := (0 : Int32)) (by decide) (dkAt dk_X12_lays 28 rfl) 46 rfl ?_
      refine x_istore_n C (L1 := [some (.ref (wad Γ 108)), some (.int p0), some (.int x7), some (.int (0 : Int32))]) (dkAt dk_X12_lays 29 rfl) 47 rfl rfl (by decide) rfl ?_
      refine G.weak (L := [some (.ref (wad Γ 108)), some (.int p0), some (.int x7), some (.int (0 : Int32))]) ⟨rfl, rfl, rfl, rfl, trivial⟩ ?_
      refine l_X12_lays_L47 hN C E ?_ Z _ _ hf
      intro M23 hf
      refine x_iinc C (v := (x7 + (1 : Int32))) (L1 := [some (.ref (wad Γ 108)), some (.int p0), some (.int (x7 + (1 : Int32)))]) (dkAt dk_X12_lays 78 rfl) 128 rfl rfl rfl (by decide) rfl ?_
      refine x_goto C 35 (dkAt dk_X12_lays 79 rfl) (by decide) ?_
      exact G.weak (L := [some (.ref (wad Γ 108)), some (.int p0), some (.int (x7 + (1 : Int32)))]) ⟨rfl, rfl, rfl, trivial⟩ (ih _ _ hf)
set_option maxRecDepth 100000 in
theorem c_X12_lays {Γ : WC} (hN : HN Γ) {Z : Nat} {M : Mem} {p0 : Int32} {rM : Unit × Mem}  (hf : f_X12_lays Z M p0 = some rM) : Ct Γ yX12_lays cX12_lays 5 none (rmL 2 0 0) [.ref (wad Γ 108), .int p0] M none rM.2 := by
  refine mkN hN.1 (own := RX12) rfl (by decide) (Nat.le_of_ble_eq_true rfl) (fun X C E => ?_)
  change G Γ X M 0 0 [some (.ref (wad Γ 108)), some (.int p0)] [] 0
  unfold f_X12_lays at hf
  refine x_iconst C (v := (0 : Int32)) (by decide) (dkAt dk_X12_lays 0 rfl) 1 rfl ?_
  refine x_istore_n C (L1 := [some (.ref (wad Γ 108)), some (.int p0), some (.int (0 : Int32))]) (dkAt dk_X12_lays 1 rfl) 2 rfl rfl (by decide) rfl ?_
  refine G.weak (L := [some (.ref (wad Γ 108)), some (.int p0), some (.int (0 : Int32))]) ⟨rfl, rfl, rfl, trivial⟩ ?_
  refine l_X12_lays_L2 hN C E ?_ Z _ _ hf
  intro M4 hf
  refine x_aload_n C rfl rfl (dkAt dk_X12_lays 12 rfl) 22 rfl ?_
  refine x_getS C lk_RX12_36 (hN.sh sh108) (hN.sr sr108_21) (dkAt dk_X12_lays 13 rfl) 25 rfl ?_
  refine x_aload_n C rfl rfl (dkAt dk_X12_lays 14 rfl) 26 rfl ?_
  refine x_getS C lk_RX12_7 (hN.sh sh108) (hN.sr sr108_2) (dkAt dk_X12_lays 15 rfl) 29 rfl ?_
  refine x_iconst C (v := (0 : Int32)) (by decide) (dkAt dk_X12_lays 16 rfl) 30 rfl ?_
  refine x_iald C (hN.sh sh109) (dkAt dk_X12_lays 17 rfl) 31 rfl hf (fun v5 hf => ?_)
  refine x_lconst C (v := (1 : Int64)) (by decide) (dkAt dk_X12_lays 18 rfl) 32 rfl ?_
  refine x_last C (hN.sh sh116) (dkAt dk_X12_lays 19 rfl) 33 rfl hf (fun M6 hf => ?_)
  refine x_iconst C (v := (0 : Int32)) (by decide) (dkAt dk_X12_lays 20 rfl) 34 rfl ?_
  refine x_istore_n C (L1 := [some (.ref (wad Γ 108)), some (.int p0), some (.int (0 : Int32))]) (dkAt dk_X12_lays 21 rfl) 35 rfl rfl (by decide) rfl ?_
  refine G.weak (L := [some (.ref (wad Γ 108)), some (.int p0), some (.int (0 : Int32))]) ⟨rfl, rfl, rfl, trivial⟩ ?_
  refine l_X12_lays_L35 hN C E Z _ _ hf
def f_X12_power_L5 (Z : Nat) (M : Mem) (p0 : Int32) (p1 : Int32) : Nat → Int64 → Int32 → Option (Int64 × Mem)
  | 0, _, _ => none
  | n + 1, x1, x2 => (if p1 ≤ x2 then some (x1, M) else f_X12_power_L5 Z M p0 p1 n (x1 * p0.toInt64) (x2 + (1 : Int32)))
def f_X12_power (Z : Nat) (M : Mem) (p0 : Int32) (p1 : Int32) : Option (Int64 × Mem) :=
  f_X12_power_L5 Z M p0 p1 Z (1 : Int64) (0 : Int32)
set_option maxRecDepth 100000 in
theorem l_X12_power_L5 {Γ : WC} {X : MX} (hN : HN Γ) (C : CX Γ X cX12_power 5 RX12 (some .long) (rmL 0 0 0)) {rM : Int64 × Mem} (E : EndN Γ X (some (.long rM.1)) rM.2 0 0) {Z : Nat} {M : Mem} {p0 : Int32} {p1 : Int32} : ∀ (n : Nat) (x1 : Int64) (x2 : Int32), f_X12_power_L5 Z M p0 p1 n x1 x2 = some rM → G Γ X M 0 0 [some (.int p0), some (.int p1), some (.long x1), none, some (.int x2)] [] 5 := by
  intro n
  induction n with
  | zero =>
    intro x1 x2 hf
    have hf0 : (none : Option _) = some rM := hf
    cases hf0
  | succ n ih =>
    intro x1 x2 hf
    rw [f_X12_power_L5] at hf
    refine x_iload C rfl (dkAt dk_X12_power 4 rfl) 7 rfl ?_
    refine x_iload_n C rfl rfl (dkAt dk_X12_power 5 rfl) 8 rfl ?_
    refine x_icmp_ge C 22 (dkAt dk_X12_power 6 rfl) 11 rfl (by decide) hf (fun hf => ?_) (fun hf => ?_)
    · refine x_lload_n C rfl rfl (dkAt dk_X12_power 14 rfl) 23 rfl ?_
      exact x_lret C E hf (by decide) (by decide) (dkAt dk_X12_power 15 rfl)
    · refine x_lload_n C rfl rfl (dkAt dk_X12_power 7 rfl) 12 rfl ?_
      refine x_iload_n C rfl rfl (dkAt dk_X12_power 8 rfl) 13 rfl ?_
      refine x_i2l C (dkAt dk_X12_power 9 rfl) 14 rfl ?_
      refine x_lmul C (dkAt dk_X12_power 10 rfl) 15 rfl ?_
      refine x_lstore_n C (L1 := [some (.int p0), some (.int p1), some (.long (x1 * p0.toInt64)), none, some (.int x2)]) (dkAt dk_X12_power 11 rfl) 16 rfl rfl (by decide) rfl ?_
      refine x_iinc C (v := (x2 + (1 : Int32))) (L1 := [some (.int p0), some (.int p1), some (.long (x1 * p0.toInt64)), none, some (.int (x2 + (1 : Int32)))]) (dkAt dk_X12_power 12 rfl) 19 rfl rfl rfl (by decide) rfl ?_
      refine x_goto C 5 (dkAt dk_X12_power 13 rfl) (by decide) ?_
      exact G.weak (L := [some (.int p0), some (.int p1), some (.long (x1 * p0.toInt64)), none, some (.int (x2 + (1 : Int32)))]) ⟨rfl, rfl, rfl, rfl, trivial⟩ (ih _ _ hf)
set_option maxRecDepth 100000 in
theorem c_X12_power {Γ : WC} (hN : HN Γ) {Z : Nat} {M : Mem} {p0 : Int32} {p1 : Int32} {rM : Int64 × Mem}  (hf : f_X12_power Z M p0 p1 = some rM) : Ct Γ yX12_power cX12_power 5 (some .long) (rmL 0 0 0) [.int p0, .int p1] M (some (.long rM.1)) rM.2 := by
  refine mkN hN.1 (own := RX12) rfl (by decide) (Nat.le_of_ble_eq_true rfl) (fun X C E => ?_)
  change G Γ X M 0 0 [some (.int p0), some (.int p1)] [] 0
  unfold f_X12_power at hf
  refine x_lconst C (v := (1 : Int64)) (by decide) (dkAt dk_X12_power 0 rfl) 1 rfl ?_
  refine x_lstore_n C (L1 := [some (.int p0), some (.int p1), some (.long (1 : Int64))]) (dkAt dk_X12_power 1 rfl) 2 rfl rfl (by decide) rfl ?_
  refine x_iconst C (v := (0 : Int32)) (by decide) (dkAt dk_X12_power 2 rfl) 3 rfl ?_
  refine x_istore C (L1 := [some (.int p0), some (.int p1), some (.long (1 : Int64)), none, some (.int (0 : Int32))]) (dkAt dk_X12_power 3 rfl) 5 rfl (by decide) rfl ?_
  refine G.weak (L := [some (.int p0), some (.int p1), some (.long (1 : Int64)), none, some (.int (0 : Int32))]) ⟨rfl, rfl, rfl, rfl, trivial⟩ ?_
  refine l_X12_power_L5 hN C E Z _ _ hf
def f_X12_isTime (Z : Nat) (M : Mem) (p0 : Int32) : Option (Int32 × Mem) :=
  rdI M 109 54 (1 : Int32) (fun v1 => cl (f_X12_in Z M p0.toInt64 (0 : Int64) v1.toInt64) (fun v2 M3 => (if v2 &&& 1 = v2 then some (v2, M3) else none)))
set_option maxRecDepth 100000 in
theorem c_X12_isTime {Γ : WC} (hN : HN Γ) {Z : Nat} {M : Mem} {p0 : Int32} {rM : Int32 × Mem}  (hf : f_X12_isTime Z M p0 = some rM) : Ct Γ yX12_isTime cX12_isTime 2 (some .boolean) (rmL 1 0 0) [.ref (wad Γ 108), .int p0] M (some (.int rM.1)) rM.2 := by
  refine mkN hN.1 (own := RX12) rfl (by decide) (Nat.le_of_ble_eq_true rfl) (fun X C E => ?_)
  change G Γ X M 0 0 [some (.ref (wad Γ 108)), some (.int p0)] [] 0
  unfold f_X12_isTime at hf
  refine x_iload_n C rfl rfl (dkAt dk_X12_isTime 0 rfl) 1 rfl ?_
  refine x_i2l C (dkAt dk_X12_isTime 1 rfl) 2 rfl ?_
  refine x_lconst C (v := (0 : Int64)) (by decide) (dkAt dk_X12_isTime 2 rfl) 3 rfl ?_
  refine x_aload_n C rfl rfl (dkAt dk_X12_isTime 3 rfl) 4 rfl ?_
  refine x_getS C lk_RX12_7 (hN.sh sh108) (hN.sr sr108_2) (dkAt dk_X12_isTime 4 rfl) 7 rfl ?_
  refine x_iconst C (v := (1 : Int32)) (by decide) (dkAt dk_X12_isTime 5 rfl) 8 rfl ?_
  refine x_iald C (hN.sh sh109) (dkAt dk_X12_isTime 6 rfl) 9 rfl hf (fun v1 hf => ?_)
  refine x_i2l C (dkAt dk_X12_isTime 7 rfl) 10 rfl ?_
  obtain ⟨v2, M3, h4, hf⟩ := cl_inv hf
  refine x_cSi C (c_X12_in hN h4) mw_X12_in ln_RX12_137 ms_X12_in (ro_of (by decide) (by decide) (by decide) (by decide)) rfl rfl (Nat.le_of_ble_eq_true rfl) (dkAt dk_X12_isTime 8 rfl) 13 rfl 0 0 rfl rfl ?_
  obtain ⟨hz, hf⟩ := if_some hf
  exact x_zret C E hz hf (by decide) (by decide) (dkAt dk_X12_isTime 9 rfl)
def f_X12_reachAt_L9 (Z : Nat) (p0 : Int32) (M2 : Mem) : Nat → Int32 → Int32 → Option (Int32 × Mem)
  | 0, _, _ => none
  | n + 1, x3, x4 => rdI M2 112 344 (0 : Int32) (fun v5 => (if v5 ≤ x4 then some (x3, M2) else rdL M2 116 36 (((6 : Int32) * p0) + x4) (fun v6 => (if v6 ≤ (0 : Int64) then f_X12_reachAt_L9 Z p0 M2 n (x3 ||| (0 : Int32)) (x4 + (1 : Int32)) else f_X12_reachAt_L9 Z p0 M2 n (x3 ||| ((1 : Int32) <<< (x4 &&& 31))) (x4 + (1 : Int32))))))
def f_X12_reachAt (Z : Nat) (M : Mem) (p0 : Int32) : Option (Int32 × Mem) :=
  cl (f_X12_lays Z M (-1 : Int32)) (fun v1 M2 => f_X12_reachAt_L9 Z p0 M2 Z (0 : Int32) (0 : Int32))
set_option maxRecDepth 100000 in
theorem l_X12_reachAt_L9 {Γ : WC} {X : MX} (hN : HN Γ) (C : CX Γ X cX12_reachAt 4 RX12 (some .int) (rmL 3 0 0)) {rM : Int32 × Mem} (E : EndN Γ X (some (.int rM.1)) rM.2 0 0) {Z : Nat} {p0 : Int32} {M2 : Mem} : ∀ (n : Nat) (x3 : Int32) (x4 : Int32), f_X12_reachAt_L9 Z p0 M2 n x3 x4 = some rM → G Γ X M2 0 0 [some (.ref (wad Γ 108)), some (.int p0), some (.int x3), some (.int x4)] [] 9 := by
  intro n
  induction n with
  | zero =>
    intro x3 x4 hf
    have hf0 : (none : Option _) = some rM := hf
    cases hf0
  | succ n ih =>
    intro x3 x4 hf
    rw [f_X12_reachAt_L9] at hf
    refine x_iload_n C rfl rfl (dkAt dk_X12_reachAt 7 rfl) 10 rfl ?_
    refine x_aload_n C rfl rfl (dkAt dk_X12_reachAt 8 rfl) 11 rfl ?_
    refine x_getS C lk_RX12_20 (hN.sh sh108) (hN.sr sr108_6) (dkAt dk_X12_reachAt 9 rfl) 14 rfl ?_
    refine x_iconst C (v := (0 : Int32)) (by decide) (dkAt dk_X12_reachAt 10 rfl) 15 rfl ?_
    refine x_iald C (hN.sh sh112) (dkAt dk_X12_reachAt 11 rfl) 16 rfl hf (fun v5 hf => ?_)
    refine x_icmp_ge C 51 (dkAt dk_X12_reachAt 12 rfl) 19 rfl (by decide) hf (fun hf => ?_) (fun hf => ?_)
    · refine x_iload_n C rfl rfl (dkAt dk_X12_reachAt 34 rfl) 52 rfl ?_
      exact x_iret C E hf (by decide) (by decide) (dkAt dk_X12_reachAt 35 rfl)
    · refine x_iload_n C rfl rfl (dkAt dk_X12_reachAt 13 rfl) 20 rfl ?_
      refine x_aload_n C rfl rfl (dkAt dk_X12_reachAt 14 rfl) 21 rfl ?_
      refine x_getS C lk_RX12_36 (hN.sh sh108) (hN.sr sr108_21) (dkAt dk_X12_reachAt 15 rfl) 24 rfl ?_
      refine x_bipush C (v := (6 : Int32)) (by decide) (dkAt dk_X12_reachAt 16 rfl) 26 rfl ?_
      refine x_iload_n C rfl rfl (dkAt dk_X12_reachAt 17 rfl) 27 rfl ?_
      refine x_imul C (dkAt dk_X12_reachAt 18 rfl) 28 rfl ?_
      refine x_iload_n C rfl rfl (dkAt dk_X12_reachAt 19 rfl) 29 rfl ?_
      refine x_iadd C (dkAt dk_X12_reachAt 20 rfl) 30 rfl ?_
      refine x_lald C (hN.sh sh116) (dkAt dk_X12_reachAt 21 rfl) 31 rfl hf (fun v6 hf => ?_)
      refine x_lconst C (v := (0 : Int64)) (by decide) (dkAt dk_X12_reachAt 22 rfl) 32 rfl ?_
      refine x_lcmp_le C 42 (dkAt dk_X12_reachAt 23 rfl) 36 rfl (dkAt dk_X12_reachAt 24 rfl) (by decide) hf (fun hf => ?_) (fun hf => ?_)
      · refine x_iconst C (v := (0 : Int32)) (by decide) (dkAt dk_X12_reachAt 29 rfl) 43 rfl ?_
        refine x_ior C (dkAt dk_X12_reachAt 30 rfl) 44 rfl ?_
        refine x_istore_n C (L1 := [some (.ref (wad Γ 108)), some (.int p0), some (.int (x3 ||| (0 : Int32))), some (.int x4)]) (dkAt dk_X12_reachAt 31 rfl) 45 rfl rfl (by decide) rfl ?_
        refine x_iinc C (v := (x4 + (1 : Int32))) (L1 := [some (.ref (wad Γ 108)), some (.int p0), some (.int (x3 ||| (0 : Int32))), some (.int (x4 + (1 : Int32)))]) (dkAt dk_X12_reachAt 32 rfl) 48 rfl rfl rfl (by decide) rfl ?_
        refine x_goto C 9 (dkAt dk_X12_reachAt 33 rfl) (by decide) ?_
        exact G.weak (L := [some (.ref (wad Γ 108)), some (.int p0), some (.int (x3 ||| (0 : Int32))), some (.int (x4 + (1 : Int32)))]) ⟨rfl, rfl, rfl, rfl, trivial⟩ (ih _ _ hf)
      · refine x_iconst C (v := (1 : Int32)) (by decide) (dkAt dk_X12_reachAt 25 rfl) 37 rfl ?_
        refine x_iload_n C rfl rfl (dkAt dk_X12_reachAt 26 rfl) 38 rfl ?_
        refine x_ishl C (dkAt dk_X12_reachAt 27 rfl) 39 rfl ?_
        refine x_goto C 43 (dkAt dk_X12_reachAt 28 rfl) (by decide) ?_
        refine x_ior C (dkAt dk_X12_reachAt 30 rfl) 44 rfl ?_
        refine x_istore_n C (L1 := [some (.ref (wad Γ 108)), some (.int p0), some (.int (x3 ||| ((1 : Int32) <<< (x4 &&& 31)))), some (.int x4)]) (dkAt dk_X12_reachAt 31 rfl) 45 rfl rfl (by decide) rfl ?_
        refine x_iinc C (v := (x4 + (1 : Int32))) (L1 := [some (.ref (wad Γ 108)), some (.int p0), some (.int (x3 ||| ((1 : Int32) <<< (x4 &&& 31)))), some (.int (x4 + (1 : Int32)))]) (dkAt dk_X12_reachAt 32 rfl) 48 rfl rfl rfl (by decide) rfl ?_
        refine x_goto C 9 (dkAt dk_X12_reachAt 33 rfl) (by decide) ?_
        exact G.weak (L := [some (.ref (wad Γ 108)), some (.int p0), some (.int (x3 ||| ((1 : Int32) <<< (x4 &&& 31)))), some (.int (x4 + (1 : Int32)))]) ⟨rfl, rfl, rfl, rfl, trivial⟩ (ih _ _ hf)
set_option maxRecDepth 100000 in
theorem c_X12_reachAt {Γ : WC} (hN : HN Γ) {Z : Nat} {M : Mem} {p0 : Int32} {rM : Int32 × Mem}  (hf : f_X12_reachAt Z M p0 = some rM) : Ct Γ yX12_reachAt cX12_reachAt 4 (some .int) (rmL 3 0 0) [.ref (wad Γ 108), .int p0] M (some (.int rM.1)) rM.2 := by
  refine mkN hN.1 (own := RX12) rfl (by decide) (Nat.le_of_ble_eq_true rfl) (fun X C E => ?_)
  change G Γ X M 0 0 [some (.ref (wad Γ 108)), some (.int p0)] [] 0
  unfold f_X12_reachAt at hf
  refine x_aload_n C rfl rfl (dkAt dk_X12_reachAt 0 rfl) 1 rfl ?_
  refine x_iconst C (v := (-1 : Int32)) (by decide) (dkAt dk_X12_reachAt 1 rfl) 2 rfl ?_
  obtain ⟨v1, M2, h7, hf⟩ := cl_inv hf
  refine x_cVv C (c_X12_lays hN h7) mw_X12_lays ln_RX12_264 mi_X12_lays (hN.rc (ci := 12) sh108 rc12) (ro_of (by decide) (by decide) (by decide) (by decide)) rfl rfl (Nat.le_of_ble_eq_true rfl) (dkAt dk_X12_reachAt 2 rfl) 5 rfl 0 0 rfl rfl ?_
  refine x_iconst C (v := (0 : Int32)) (by decide) (dkAt dk_X12_reachAt 3 rfl) 6 rfl ?_
  refine x_istore_n C (L1 := [some (.ref (wad Γ 108)), some (.int p0), some (.int (0 : Int32))]) (dkAt dk_X12_reachAt 4 rfl) 7 rfl rfl (by decide) rfl ?_
  refine x_iconst C (v := (0 : Int32)) (by decide) (dkAt dk_X12_reachAt 5 rfl) 8 rfl ?_
  refine x_istore_n C (L1 := [some (.ref (wad Γ 108)), some (.int p0), some (.int (0 : Int32)), some (.int (0 : Int32))]) (dkAt dk_X12_reachAt 6 rfl) 9 rfl rfl (by decide) rfl ?_
  refine G.weak (L := [some (.ref (wad Γ 108)), some (.int p0), some (.int (0 : Int32)), some (.int (0 : Int32))]) ⟨rfl, rfl, rfl, rfl, trivial⟩ ?_
  refine l_X12_reachAt_L9 hN C E Z _ _ hf
def f_X12_reach (Z : Nat) (M : Mem) (p0 : Int32) : Option (Int32 × Mem) :=
  cl (f_X12_noChain Z M) (fun v1 M2 => (if v1 = 0 then cl (f_X12_isTime Z M2 p0) (fun v3 M4 => jn (fun (t5 : Int32) => cl (f_X12_refuse Z M4 t5 (2 : Int32)) (fun v6 M7 => (if v6 = 0 then cl (f_X12_reachAt Z M7 p0) (fun v8 M9 => some (v8, M9)) else some ((0 : Int32), M7)))) (fun j12 => (if v3 = 0 then j12 (1 : Int32) else j12 (0 : Int32)))) else some ((0 : Int32), M2)))
set_option maxRecDepth 100000 in
theorem c_X12_reach {Γ : WC} (hN : HN Γ) {Z : Nat} {M : Mem} {p0 : Int32} {rM : Int32 × Mem}  (hf : f_X12_reach Z M p0 = some rM) : Ct Γ yX12_reach cX12_reach 2 (some .int) (rmL 4 0 0) [.ref (wad Γ 108), .int p0] M (some (.int rM.1)) rM.2 := by
  refine mkN hN.1 (own := RX12) rfl (by decide) (Nat.le_of_ble_eq_true rfl) (fun X C E => ?_)
  change G Γ X M 0 0 [some (.ref (wad Γ 108)), some (.int p0)] [] 0
  unfold f_X12_reach at hf
  refine x_aload_n C rfl rfl (dkAt dk_X12_reach 0 rfl) 1 rfl ?_
  obtain ⟨v1, M2, h14, hf⟩ := cl_inv hf
  refine x_cVi C (c_X12_noChain hN h14) mw_X12_noChain ln_RX12_222 mi_X12_noChain (hN.rc (ci := 12) sh108 rc12) (ro_of (by decide) (by decide) (by decide) (by decide)) rfl rfl (Nat.le_of_ble_eq_true rfl) (dkAt dk_X12_reach 1 rfl) 4 rfl 0 0 rfl rfl ?_
  refine x_if_ne C 28 (dkAt dk_X12_reach 2 rfl) 7 rfl (by decide) hf (fun hf => ?_) (fun hf => ?_)
  · refine x_iconst C (v := (0 : Int32)) (by decide) (dkAt dk_X12_reach 14 rfl) 29 rfl ?_
    refine x_goto C 37 (dkAt dk_X12_reach 15 rfl) (by decide) ?_
    exact x_iret C E hf (by decide) (by decide) (dkAt dk_X12_reach 19 rfl)
  · refine x_aload_n C rfl rfl (dkAt dk_X12_reach 3 rfl) 8 rfl ?_
    refine x_aload_n C rfl rfl (dkAt dk_X12_reach 4 rfl) 9 rfl ?_
    refine x_iload_n C rfl rfl (dkAt dk_X12_reach 5 rfl) 10 rfl ?_
    obtain ⟨v3, M4, h13, hf⟩ := cl_inv hf
    refine x_cVi C (c_X12_isTime hN h13) mw_X12_isTime ln_RX12_267 mi_X12_isTime (hN.rc (ci := 12) sh108 rc12) (ro_of (by decide) (by decide) (by decide) (by decide)) rfl rfl (Nat.le_of_ble_eq_true rfl) (dkAt dk_X12_reach 6 rfl) 13 rfl 0 0 rfl rfl ?_
    refine x_join hf (fun t5 => G Γ X M4 0 0 [some (.ref (wad Γ 108)), some (.int p0)] [.int t5, .ref (wad Γ 108)] 21) (fun t5 hf => ?_) (fun j12 hj12 hf => ?_)
    · refine x_iconst C (v := (2 : Int32)) (by decide) (dkAt dk_X12_reach 11 rfl) 22 rfl ?_
      obtain ⟨v6, M7, h11, hf⟩ := cl_inv hf
      refine x_cVi C (c_X12_refuse hN h11) mw_X12_refuse ln_RX12_68 mi_X12_refuse (hN.rc (ci := 12) sh108 rc12) (ro_of (by decide) (by decide) (by decide) (by decide)) rfl rfl (Nat.le_of_ble_eq_true rfl) (dkAt dk_X12_reach 12 rfl) 25 rfl 0 0 rfl rfl ?_
      refine x_if_eq C 32 (dkAt dk_X12_reach 13 rfl) 28 rfl (by decide) hf (fun hf => ?_) (fun hf => ?_)
      · refine x_aload_n C rfl rfl (dkAt dk_X12_reach 16 rfl) 33 rfl ?_
        refine x_iload_n C rfl rfl (dkAt dk_X12_reach 17 rfl) 34 rfl ?_
        obtain ⟨v8, M9, h10, hf⟩ := cl_inv hf
        refine x_cVi C (c_X12_reachAt hN h10) mw_X12_reachAt ln_RX12_270 mi_X12_reachAt (hN.rc (ci := 12) sh108 rc12) (ro_of (by decide) (by decide) (by decide) (by decide)) rfl rfl (Nat.le_of_ble_eq_true rfl) (dkAt dk_X12_reach 18 rfl) 37 rfl 0 0 rfl rfl ?_
        exact x_iret C E hf (by decide) (by decide) (dkAt dk_X12_reach 19 rfl)
      · refine x_iconst C (v := (0 : Int32)) (by decide) (dkAt dk_X12_reach 14 rfl) 29 rfl ?_
        refine x_goto C 37 (dkAt dk_X12_reach 15 rfl) (by decide) ?_
        exact x_iret C E hf (by decide) (by decide) (dkAt dk_X12_reach 19 rfl)
    · refine x_if_ne C 20 (dkAt dk_X12_reach 7 rfl) 16 rfl (by decide) hf (fun hf => ?_) (fun hf => ?_)
      · refine x_iconst C (v := (0 : Int32)) (by decide) (dkAt dk_X12_reach 10 rfl) 21 rfl ?_
        exact G.weak (L := [some (.ref (wad Γ 108)), some (.int p0)]) ⟨rfl, rfl, trivial⟩ (hj12 _ hf)
      · refine x_iconst C (v := (1 : Int32)) (by decide) (dkAt dk_X12_reach 8 rfl) 17 rfl ?_
        refine x_goto C 21 (dkAt dk_X12_reach 9 rfl) (by decide) ?_
        exact G.weak (L := [some (.ref (wad Γ 108)), some (.int p0)]) ⟨rfl, rfl, trivial⟩ (hj12 _ hf)
def f_X12_isClosed_L56 (Z : Nat) (p0 : Int32) (x9 : Int32) (k : Mem → Option (Int32 × Mem)) : Nat → Int32 → Mem → Option (Int32 × Mem)
  | 0, _, _ => none
  | n + 1, x12, M13 => rdI M13 112 344 (0 : Int32) (fun v14 => (if v14 ≤ x12 then k M13 else jn (fun (t15 : Mem) => f_X12_isClosed_L56 Z p0 x9 k n (x12 + (1 : Int32)) t15) (fun j16 => (if ((p0 >>> (x9 &&& 31)) &&& (1 : Int32)) = (1 : Int32) then (if ((p0 >>> (x12 &&& 31)) &&& (1 : Int32)) = 0 then cl (f_X12_stepOf Z M13 x9 x12) (fun v17 M18 => (if v17 ≤ 0 then j16 M18 else some ((0 : Int32), M18))) else j16 M13) else j16 M13))))
def f_X12_isClosed_L44 (Z : Nat) (p0 : Int32) : Nat → Int32 → Mem → Option (Int32 × Mem)
  | 0, _, _ => none
  | n + 1, x9, M10 => rdI M10 112 344 (0 : Int32) (fun v11 => (if v11 ≤ x9 then some ((1 : Int32), M10) else f_X12_isClosed_L56 Z p0 x9 (fun (M20 : Mem) => f_X12_isClosed_L44 Z p0 n (x9 + (1 : Int32)) M20) Z (0 : Int32) M10))
def f_X12_isClosed (Z : Nat) (M : Mem) (p0 : Int32) : Option (Int32 × Mem) :=
  cl (f_X12_noChain Z M) (fun v1 M2 => (if v1 = 0 then rdI M2 112 344 (0 : Int32) (fun v3 => cl (f_X12_in Z M2 p0.toInt64 (1 : Int64) ((((1 : Int32) <<< (v3 &&& 31)) - (1 : Int32)).toInt64)) (fun v4 M5 => jn (fun (t6 : Int32) => cl (f_X12_refuse Z M5 t6 (2 : Int32)) (fun v7 M8 => (if v7 = 0 then f_X12_isClosed_L44 Z p0 Z (0 : Int32) M8 else some ((0 : Int32), M8)))) (fun j22 => (if v4 = 0 then j22 (1 : Int32) else j22 (0 : Int32))))) else some ((0 : Int32), M2)))
set_option maxRecDepth 100000 in
theorem l_X12_isClosed_L56 {Γ : WC} {X : MX} (hN : HN Γ) (C : CX Γ X cX12_isClosed 4 RX12 (some .boolean) (rmL 2 0 0)) {rM : Int32 × Mem} (E : EndN Γ X (some (.int rM.1)) rM.2 0 0) {Z : Nat} {p0 : Int32} {x9 : Int32} {k : Mem → Option (Int32 × Mem)} (hk : ∀  (Mx : Mem), k Mx = some rM → G Γ X Mx 0 0 [some (.ref (wad Γ 108)), some (.int p0), some (.int x9)] [] 100) : ∀ (n : Nat) (x12 : Int32) (M13 : Mem), f_X12_isClosed_L56 Z p0 x9 k n x12 M13 = some rM → G Γ X M13 0 0 [some (.ref (wad Γ 108)), some (.int p0), some (.int x9), some (.int x12)] [] 56 := by
  intro n
  induction n with
  | zero =>
    intro x12 M13 hf
    have hf0 : (none : Option _) = some rM := hf
    cases hf0
  | succ n ih =>
    intro x12 M13 hf
    rw [f_X12_isClosed_L56] at hf
    refine x_iload_n C rfl rfl (dkAt dk_X12_isClosed 36 rfl) 57 rfl ?_
    refine x_aload_n C rfl rfl (dkAt dk_X12_isClosed 37 rfl) 58 rfl ?_
    refine x_getS C lk_RX12_20 (hN.sh sh108) (hN.sr sr108_6) (dkAt dk_X12_isClosed 38 rfl) 61 rfl ?_
    refine x_iconst C (v := (0 : Int32)) (by decide) (dkAt dk_X12_isClosed 39 rfl) 62 rfl ?_
    refine x_iald C (hN.sh sh112) (dkAt dk_X12_isClosed 40 rfl) 63 rfl hf (fun v14 hf => ?_)
    refine x_icmp_ge C 100 (dkAt dk_X12_isClosed 41 rfl) 66 rfl (by decide) hf (fun hf => ?_) (fun hf => ?_)
    · exact G.weak (L := [some (.ref (wad Γ 108)), some (.int p0), some (.int x9)]) ⟨rfl, rfl, rfl, trivial⟩ (hk _ hf)
    · refine x_iload_n C rfl rfl (dkAt dk_X12_isClosed 42 rfl) 67 rfl ?_
      refine x_iload_n C rfl rfl (dkAt dk_X12_isClosed 43 rfl) 68 rfl ?_
      refine x_ishr C (dkAt dk_X12_isClosed 44 rfl) 69 rfl ?_
      refine x_iconst C (v := (1 : Int32)) (by decide) (dkAt dk_X12_isClosed 45 rfl) 70 rfl ?_
      refine x_iand C (dkAt dk_X12_isClosed 46 rfl) 71 rfl ?_
      refine x_iconst C (v := (1 : Int32)) (by decide) (dkAt dk_X12_isClosed 47 rfl) 72 rfl ?_
      refine x_join hf (fun t15 => G Γ X t15 0 0 [some (.ref (wad Γ 108)), some (.int p0), some (.int x9), some (.int x12)] [] 94) (fun t15 hf => ?_) (fun j16 hj16 hf => ?_)
      · refine x_iinc C (v := (x12 + (1 : Int32))) (L1 := [some (.ref (wad Γ 108)), some (.int p0), some (.int x9), some (.int (x12 + (1 : Int32)))]) (dkAt dk_X12_isClosed 62 rfl) 97 rfl rfl rfl (by decide) rfl ?_
        refine x_goto C 56 (dkAt dk_X12_isClosed 63 rfl) (by decide) ?_
        exact G.weak (L := [some (.ref (wad Γ 108)), some (.int p0), some (.int x9), some (.int (x12 + (1 : Int32)))]) ⟨rfl, rfl, rfl, rfl, trivial⟩ (ih _ _ hf)
      · refine x_icmp_ne C 94 (dkAt dk_X12_isClosed 48 rfl) 75 rfl (by decide) hf (fun hf => ?_) (fun hf => ?_)
        · exact G.weak (L := [some (.ref (wad Γ 108)), some (.int p0), some (.int x9), some (.int x12)]) ⟨rfl, rfl, rfl, rfl, trivial⟩ (hj16 _ hf)
        · refine x_iload_n C rfl rfl (dkAt dk_X12_isClosed 49 rfl) 76 rfl ?_
          refine x_iload_n C rfl rfl (dkAt dk_X12_isClosed 50 rfl) 77 rfl ?_
          refine x_ishr C (dkAt dk_X12_isClosed 51 rfl) 78 rfl ?_
          refine x_iconst C (v := (1 : Int32)) (by decide) (dkAt dk_X12_isClosed 52 rfl) 79 rfl ?_
          refine x_iand C (dkAt dk_X12_isClosed 53 rfl) 80 rfl ?_
          refine x_if_ne C 94 (dkAt dk_X12_isClosed 54 rfl) 83 rfl (by decide) hf (fun hf => ?_) (fun hf => ?_)
          · exact G.weak (L := [some (.ref (wad Γ 108)), some (.int p0), some (.int x9), some (.int x12)]) ⟨rfl, rfl, rfl, rfl, trivial⟩ (hj16 _ hf)
          · refine x_aload_n C rfl rfl (dkAt dk_X12_isClosed 55 rfl) 84 rfl ?_
            refine x_iload_n C rfl rfl (dkAt dk_X12_isClosed 56 rfl) 85 rfl ?_
            refine x_iload_n C rfl rfl (dkAt dk_X12_isClosed 57 rfl) 86 rfl ?_
            obtain ⟨v17, M18, h19, hf⟩ := cl_inv hf
            refine x_cVi C (c_X12_stepOf hN h19) mw_X12_stepOf ln_RX12_261 mi_X12_stepOf (hN.rc (ci := 12) sh108 rc12) (ro_of (by decide) (by decide) (by decide) (by decide)) rfl rfl (Nat.le_of_ble_eq_true rfl) (dkAt dk_X12_isClosed 58 rfl) 89 rfl 0 0 rfl rfl ?_
            refine x_if_le C 94 (dkAt dk_X12_isClosed 59 rfl) 92 rfl (by decide) hf (fun hf => ?_) (fun hf => ?_)
            · exact G.weak (L := [some (.ref (wad Γ 108)), some (.int p0), some (.int x9), some (.int x12)]) ⟨rfl, rfl, rfl, rfl, trivial⟩ (hj16 _ hf)
            · refine x_iconst C (v := (0 : Int32)) (by decide) (dkAt dk_X12_isClosed 60 rfl) 93 rfl ?_
              exact x_zret C E (by decide) hf (by decide) (by decide) (dkAt dk_X12_isClosed 61 rfl)
set_option maxRecDepth 100000 in
theorem l_X12_isClosed_L44 {Γ : WC} {X : MX} (hN : HN Γ) (C : CX Γ X cX12_isClosed 4 RX12 (some .boolean) (rmL 2 0 0)) {rM : Int32 × Mem} (E : EndN Γ X (some (.int rM.1)) rM.2 0 0) {Z : Nat} {p0 : Int32} : ∀ (n : Nat) (x9 : Int32) (M10 : Mem), f_X12_isClosed_L44 Z p0 n x9 M10 = some rM → G Γ X M10 0 0 [some (.ref (wad Γ 108)), some (.int p0), some (.int x9)] [] 44 := by
  intro n
  induction n with
  | zero =>
    intro x9 M10 hf
    have hf0 : (none : Option _) = some rM := hf
    cases hf0
  | succ n ih =>
    intro x9 M10 hf
    rw [f_X12_isClosed_L44] at hf
    refine x_iload_n C rfl rfl (dkAt dk_X12_isClosed 28 rfl) 45 rfl ?_
    refine x_aload_n C rfl rfl (dkAt dk_X12_isClosed 29 rfl) 46 rfl ?_
    refine x_getS C lk_RX12_20 (hN.sh sh108) (hN.sr sr108_6) (dkAt dk_X12_isClosed 30 rfl) 49 rfl ?_
    refine x_iconst C (v := (0 : Int32)) (by decide) (dkAt dk_X12_isClosed 31 rfl) 50 rfl ?_
    refine x_iald C (hN.sh sh112) (dkAt dk_X12_isClosed 32 rfl) 51 rfl hf (fun v11 hf => ?_)
    refine x_icmp_ge C 106 (dkAt dk_X12_isClosed 33 rfl) 54 rfl (by decide) hf (fun hf => ?_) (fun hf => ?_)
    · refine x_iconst C (v := (1 : Int32)) (by decide) (dkAt dk_X12_isClosed 66 rfl) 107 rfl ?_
      exact x_zret C E (by decide) hf (by decide) (by decide) (dkAt dk_X12_isClosed 67 rfl)
    · refine x_iconst C (v := (0 : Int32)) (by decide) (dkAt dk_X12_isClosed 34 rfl) 55 rfl ?_
      refine x_istore_n C (L1 := [some (.ref (wad Γ 108)), some (.int p0), some (.int x9), some (.int (0 : Int32))]) (dkAt dk_X12_isClosed 35 rfl) 56 rfl rfl (by decide) rfl ?_
      refine G.weak (L := [some (.ref (wad Γ 108)), some (.int p0), some (.int x9), some (.int (0 : Int32))]) ⟨rfl, rfl, rfl, rfl, trivial⟩ ?_
      refine l_X12_isClosed_L56 hN C E ?_ Z _ _ hf
      intro M20 hf
      refine x_iinc C (v := (x9 + (1 : Int32))) (L1 := [some (.ref (wad Γ 108)), some (.int p0), some (.int (x9 + (1 : Int32)))]) (dkAt dk_X12_isClosed 64 rfl) 103 rfl rfl rfl (by decide) rfl ?_
      refine x_goto C 44 (dkAt dk_X12_isClosed 65 rfl) (by decide) ?_
      exact G.weak (L := [some (.ref (wad Γ 108)), some (.int p0), some (.int (x9 + (1 : Int32)))]) ⟨rfl, rfl, rfl, trivial⟩ (ih _ _ hf)
set_option maxRecDepth 100000 in
theorem c_X12_isClosed {Γ : WC} (hN : HN Γ) {Z : Nat} {M : Mem} {p0 : Int32} {rM : Int32 × Mem}  (hf : f_X12_isClosed Z M p0 = some rM) : Ct Γ yX12_isClosed cX12_isClosed 4 (some .boolean) (rmL 2 0 0) [.ref (wad Γ 108), .int p0] M (some (.int rM.1)) rM.2 := by
  refine mkN hN.1 (own := RX12) rfl (by decide) (Nat.le_of_ble_eq_true rfl) (fun X C E => ?_)
  change G Γ X M 0 0 [some (.ref (wad Γ 108)), some (.int p0)] [] 0
  unfold f_X12_isClosed at hf
  refine x_aload_n C rfl rfl (dkAt dk_X12_isClosed 0 rfl) 1 rfl ?_
  obtain ⟨v1, M2, h24, hf⟩ := cl_inv hf
  refine x_cVi C (c_X12_noChain hN h24) mw_X12_noChain ln_RX12_222 mi_X12_noChain (hN.rc (ci := 12) sh108 rc12) (ro_of (by decide) (by decide) (by decide) (by decide)) rfl rfl (Nat.le_of_ble_eq_true rfl) (dkAt dk_X12_isClosed 1 rfl) 4 rfl 0 0 rfl rfl ?_
  refine x_if_ne C 40 (dkAt dk_X12_isClosed 2 rfl) 7 rfl (by decide) hf (fun hf => ?_) (fun hf => ?_)
  · refine x_iconst C (v := (0 : Int32)) (by decide) (dkAt dk_X12_isClosed 24 rfl) 41 rfl ?_
    exact x_zret C E (by decide) hf (by decide) (by decide) (dkAt dk_X12_isClosed 25 rfl)
  · refine x_aload_n C rfl rfl (dkAt dk_X12_isClosed 3 rfl) 8 rfl ?_
    refine x_iload_n C rfl rfl (dkAt dk_X12_isClosed 4 rfl) 9 rfl ?_
    refine x_i2l C (dkAt dk_X12_isClosed 5 rfl) 10 rfl ?_
    refine x_lconst C (v := (1 : Int64)) (by decide) (dkAt dk_X12_isClosed 6 rfl) 11 rfl ?_
    refine x_iconst C (v := (1 : Int32)) (by decide) (dkAt dk_X12_isClosed 7 rfl) 12 rfl ?_
    refine x_aload_n C rfl rfl (dkAt dk_X12_isClosed 8 rfl) 13 rfl ?_
    refine x_getS C lk_RX12_20 (hN.sh sh108) (hN.sr sr108_6) (dkAt dk_X12_isClosed 9 rfl) 16 rfl ?_
    refine x_iconst C (v := (0 : Int32)) (by decide) (dkAt dk_X12_isClosed 10 rfl) 17 rfl ?_
    refine x_iald C (hN.sh sh112) (dkAt dk_X12_isClosed 11 rfl) 18 rfl hf (fun v3 hf => ?_)
    refine x_ishl C (dkAt dk_X12_isClosed 12 rfl) 19 rfl ?_
    refine x_iconst C (v := (1 : Int32)) (by decide) (dkAt dk_X12_isClosed 13 rfl) 20 rfl ?_
    refine x_isub C (dkAt dk_X12_isClosed 14 rfl) 21 rfl ?_
    refine x_i2l C (dkAt dk_X12_isClosed 15 rfl) 22 rfl ?_
    obtain ⟨v4, M5, h23, hf⟩ := cl_inv hf
    refine x_cSi C (c_X12_in hN h23) mw_X12_in ln_RX12_137 ms_X12_in (ro_of (by decide) (by decide) (by decide) (by decide)) rfl rfl (Nat.le_of_ble_eq_true rfl) (dkAt dk_X12_isClosed 16 rfl) 25 rfl 0 0 rfl rfl ?_
    refine x_join hf (fun t6 => G Γ X M5 0 0 [some (.ref (wad Γ 108)), some (.int p0)] [.int t6, .ref (wad Γ 108)] 33) (fun t6 hf => ?_) (fun j22 hj22 hf => ?_)
    · refine x_iconst C (v := (2 : Int32)) (by decide) (dkAt dk_X12_isClosed 21 rfl) 34 rfl ?_
      obtain ⟨v7, M8, h21, hf⟩ := cl_inv hf
      refine x_cVi C (c_X12_refuse hN h21) mw_X12_refuse ln_RX12_68 mi_X12_refuse (hN.rc (ci := 12) sh108 rc12) (ro_of (by decide) (by decide) (by decide) (by decide)) rfl rfl (Nat.le_of_ble_eq_true rfl) (dkAt dk_X12_isClosed 22 rfl) 37 rfl 0 0 rfl rfl ?_
      refine x_if_eq C 42 (dkAt dk_X12_isClosed 23 rfl) 40 rfl (by decide) hf (fun hf => ?_) (fun hf => ?_)
      · refine x_iconst C (v := (0 : Int32)) (by decide) (dkAt dk_X12_isClosed 26 rfl) 43 rfl ?_
        refine x_istore_n C (L1 := [some (.ref (wad Γ 108)), some (.int p0), some (.int (0 : Int32))]) (dkAt dk_X12_isClosed 27 rfl) 44 rfl rfl (by decide) rfl ?_
        refine G.weak (L := [some (.ref (wad Γ 108)), some (.int p0), some (.int (0 : Int32))]) ⟨rfl, rfl, rfl, trivial⟩ ?_
        refine l_X12_isClosed_L44 hN C E Z _ _ hf
      · refine x_iconst C (v := (0 : Int32)) (by decide) (dkAt dk_X12_isClosed 24 rfl) 41 rfl ?_
        exact x_zret C E (by decide) hf (by decide) (by decide) (dkAt dk_X12_isClosed 25 rfl)
    · refine x_if_ne C 32 (dkAt dk_X12_isClosed 17 rfl) 28 rfl (by decide) hf (fun hf => ?_) (fun hf => ?_)
      · refine x_iconst C (v := (0 : Int32)) (by decide) (dkAt dk_X12_isClosed 20 rfl) 33 rfl ?_
        exact G.weak (L := [some (.ref (wad Γ 108)), some (.int p0)]) ⟨rfl, rfl, trivial⟩ (hj22 _ hf)
      · refine x_iconst C (v := (1 : Int32)) (by decide) (dkAt dk_X12_isClosed 18 rfl) 29 rfl ?_
        refine x_goto C 33 (dkAt dk_X12_isClosed 19 rfl) (by decide) ?_
        exact G.weak (L := [some (.ref (wad Γ 108)), some (.int p0)]) ⟨rfl, rfl, trivial⟩ (hj22 _ hf)
def f_X12_flow (Z : Nat) (M : Mem) (p0 : Int32) (p1 : Int32) : Option (Int64 × Mem) :=
  cl (f_X12_noState Z M p0) (fun v1 M2 => (if v1 = 0 then cl (f_X12_isTime Z M2 p1) (fun v3 M4 => jn (fun (t5 : Int32) => cl (f_X12_refuse Z M4 t5 (3 : Int32)) (fun v6 M7 => (if v6 = 0 then cl (f_X12_lays Z M7 (-1 : Int32)) (fun v8 M9 => rdL M9 116 36 (((6 : Int32) * p1) + p0) (fun v10 => some (v10, M9))) else some ((0 : Int64), M7)))) (fun j13 => (if v3 = 0 then j13 (1 : Int32) else j13 (0 : Int32)))) else some ((0 : Int64), M2)))
set_option maxRecDepth 100000 in
theorem c_X12_flow {Γ : WC} (hN : HN Γ) {Z : Nat} {M : Mem} {p0 : Int32} {p1 : Int32} {rM : Int64 × Mem}  (hf : f_X12_flow Z M p0 p1 = some rM) : Ct Γ yX12_flow cX12_flow 3 (some .long) (rmL 3 0 0) [.ref (wad Γ 108), .int p0, .int p1] M (some (.long rM.1)) rM.2 := by
  refine mkN hN.1 (own := RX12) rfl (by decide) (Nat.le_of_ble_eq_true rfl) (fun X C E => ?_)
  change G Γ X M 0 0 [some (.ref (wad Γ 108)), some (.int p0), some (.int p1)] [] 0
  unfold f_X12_flow at hf
  refine x_aload_n C rfl rfl (dkAt dk_X12_flow 0 rfl) 1 rfl ?_
  refine x_iload_n C rfl rfl (dkAt dk_X12_flow 1 rfl) 2 rfl ?_
  obtain ⟨v1, M2, h15, hf⟩ := cl_inv hf
  refine x_cVi C (c_X12_noState hN h15) mw_X12_noState ln_RX12_236 mi_X12_noState (hN.rc (ci := 12) sh108 rc12) (ro_of (by decide) (by decide) (by decide) (by decide)) rfl rfl (Nat.le_of_ble_eq_true rfl) (dkAt dk_X12_flow 2 rfl) 5 rfl 0 0 rfl rfl ?_
  refine x_if_ne C 29 (dkAt dk_X12_flow 3 rfl) 8 rfl (by decide) hf (fun hf => ?_) (fun hf => ?_)
  · refine x_lconst C (v := (0 : Int64)) (by decide) (dkAt dk_X12_flow 15 rfl) 30 rfl ?_
    exact x_lret C E hf (by decide) (by decide) (dkAt dk_X12_flow 16 rfl)
  · refine x_aload_n C rfl rfl (dkAt dk_X12_flow 4 rfl) 9 rfl ?_
    refine x_aload_n C rfl rfl (dkAt dk_X12_flow 5 rfl) 10 rfl ?_
    refine x_iload_n C rfl rfl (dkAt dk_X12_flow 6 rfl) 11 rfl ?_
    obtain ⟨v3, M4, h14, hf⟩ := cl_inv hf
    refine x_cVi C (c_X12_isTime hN h14) mw_X12_isTime ln_RX12_267 mi_X12_isTime (hN.rc (ci := 12) sh108 rc12) (ro_of (by decide) (by decide) (by decide) (by decide)) rfl rfl (Nat.le_of_ble_eq_true rfl) (dkAt dk_X12_flow 7 rfl) 14 rfl 0 0 rfl rfl ?_
    refine x_join hf (fun t5 => G Γ X M4 0 0 [some (.ref (wad Γ 108)), some (.int p0), some (.int p1)] [.int t5, .ref (wad Γ 108)] 22) (fun t5 hf => ?_) (fun j13 hj13 hf => ?_)
    · refine x_iconst C (v := (3 : Int32)) (by decide) (dkAt dk_X12_flow 12 rfl) 23 rfl ?_
      obtain ⟨v6, M7, h12, hf⟩ := cl_inv hf
      refine x_cVi C (c_X12_refuse hN h12) mw_X12_refuse ln_RX12_68 mi_X12_refuse (hN.rc (ci := 12) sh108 rc12) (ro_of (by decide) (by decide) (by decide) (by decide)) rfl rfl (Nat.le_of_ble_eq_true rfl) (dkAt dk_X12_flow 13 rfl) 26 rfl 0 0 rfl rfl ?_
      refine x_if_eq C 31 (dkAt dk_X12_flow 14 rfl) 29 rfl (by decide) hf (fun hf => ?_) (fun hf => ?_)
      · refine x_aload_n C rfl rfl (dkAt dk_X12_flow 17 rfl) 32 rfl ?_
        refine x_iconst C (v := (-1 : Int32)) (by decide) (dkAt dk_X12_flow 18 rfl) 33 rfl ?_
        obtain ⟨v8, M9, h11, hf⟩ := cl_inv hf
        refine x_cVv C (c_X12_lays hN h11) mw_X12_lays ln_RX12_264 mi_X12_lays (hN.rc (ci := 12) sh108 rc12) (ro_of (by decide) (by decide) (by decide) (by decide)) rfl rfl (Nat.le_of_ble_eq_true rfl) (dkAt dk_X12_flow 19 rfl) 36 rfl 0 0 rfl rfl ?_
        refine x_aload_n C rfl rfl (dkAt dk_X12_flow 20 rfl) 37 rfl ?_
        refine x_getS C lk_RX12_36 (hN.sh sh108) (hN.sr sr108_21) (dkAt dk_X12_flow 21 rfl) 40 rfl ?_
        refine x_bipush C (v := (6 : Int32)) (by decide) (dkAt dk_X12_flow 22 rfl) 42 rfl ?_
        refine x_iload_n C rfl rfl (dkAt dk_X12_flow 23 rfl) 43 rfl ?_
        refine x_imul C (dkAt dk_X12_flow 24 rfl) 44 rfl ?_
        refine x_iload_n C rfl rfl (dkAt dk_X12_flow 25 rfl) 45 rfl ?_
        refine x_iadd C (dkAt dk_X12_flow 26 rfl) 46 rfl ?_
        refine x_lald C (hN.sh sh116) (dkAt dk_X12_flow 27 rfl) 47 rfl hf (fun v10 hf => ?_)
        exact x_lret C E hf (by decide) (by decide) (dkAt dk_X12_flow 28 rfl)
      · refine x_lconst C (v := (0 : Int64)) (by decide) (dkAt dk_X12_flow 15 rfl) 30 rfl ?_
        exact x_lret C E hf (by decide) (by decide) (dkAt dk_X12_flow 16 rfl)
    · refine x_if_ne C 21 (dkAt dk_X12_flow 8 rfl) 17 rfl (by decide) hf (fun hf => ?_) (fun hf => ?_)
      · refine x_iconst C (v := (0 : Int32)) (by decide) (dkAt dk_X12_flow 11 rfl) 22 rfl ?_
        exact G.weak (L := [some (.ref (wad Γ 108)), some (.int p0), some (.int p1)]) ⟨rfl, rfl, rfl, trivial⟩ (hj13 _ hf)
      · refine x_iconst C (v := (1 : Int32)) (by decide) (dkAt dk_X12_flow 9 rfl) 18 rfl ?_
        refine x_goto C 22 (dkAt dk_X12_flow 10 rfl) (by decide) ?_
        exact G.weak (L := [some (.ref (wad Γ 108)), some (.int p0), some (.int p1)]) ⟨rfl, rfl, rfl, trivial⟩ (hj13 _ hf)
def f_X12_use (Z : Nat) (M : Mem) (p0 : Int32) (p1 : Int32) (p2 : Int32) : Option (Int64 × Mem) :=
  cl (f_X12_noAction Z M p0 p1) (fun v1 M2 => (if v1 = 0 then rdI M2 109 54 (1 : Int32) (fun v3 => cl (f_X12_in Z M2 p2.toInt64 (0 : Int64) ((v3 - (1 : Int32)).toInt64)) (fun v4 M5 => jn (fun (t6 : Int32) => cl (f_X12_refuse Z M5 t6 (3 : Int32)) (fun v7 M8 => (if v7 = 0 then cl (f_X12_lays Z M8 (-1 : Int32)) (fun v9 M10 => rdL M10 116 36 (((6 : Int32) * p2) + p0) (fun v11 => cl (f_X12_weightOf Z M10 p0 p1) (fun v12 M13 => some ((v11 * v12.toInt64), M13)))) else some ((0 : Int64), M8)))) (fun j17 => (if v4 = 0 then j17 (1 : Int32) else j17 (0 : Int32))))) else some ((0 : Int64), M2)))
set_option maxRecDepth 100000 in
theorem c_X12_use {Γ : WC} (hN : HN Γ) {Z : Nat} {M : Mem} {p0 : Int32} {p1 : Int32} {p2 : Int32} {rM : Int64 × Mem}  (hf : f_X12_use Z M p0 p1 p2 = some rM) : Ct Γ yX12_use cX12_use 4 (some .long) (rmL 4 0 0) [.ref (wad Γ 108), .int p0, .int p1, .int p2] M (some (.long rM.1)) rM.2 := by
  refine mkN hN.1 (own := RX12) rfl (by decide) (Nat.le_of_ble_eq_true rfl) (fun X C E => ?_)
  change G Γ X M 0 0 [some (.ref (wad Γ 108)), some (.int p0), some (.int p1), some (.int p2)] [] 0
  unfold f_X12_use at hf
  refine x_aload_n C rfl rfl (dkAt dk_X12_use 0 rfl) 1 rfl ?_
  refine x_iload_n C rfl rfl (dkAt dk_X12_use 1 rfl) 2 rfl ?_
  refine x_iload_n C rfl rfl (dkAt dk_X12_use 2 rfl) 3 rfl ?_
  obtain ⟨v1, M2, h19, hf⟩ := cl_inv hf
  refine x_cVi C (c_X12_noAction hN h19) mw_X12_noAction ln_RX12_239 mi_X12_noAction (hN.rc (ci := 12) sh108 rc12) (ro_of (by decide) (by decide) (by decide) (by decide)) rfl rfl (Nat.le_of_ble_eq_true rfl) (dkAt dk_X12_use 3 rfl) 6 rfl 0 0 rfl rfl ?_
  refine x_if_ne C 40 (dkAt dk_X12_use 4 rfl) 9 rfl (by decide) hf (fun hf => ?_) (fun hf => ?_)
  · refine x_lconst C (v := (0 : Int64)) (by decide) (dkAt dk_X12_use 24 rfl) 41 rfl ?_
    exact x_lret C E hf (by decide) (by decide) (dkAt dk_X12_use 25 rfl)
  · refine x_aload_n C rfl rfl (dkAt dk_X12_use 5 rfl) 10 rfl ?_
    refine x_iload_n C rfl rfl (dkAt dk_X12_use 6 rfl) 11 rfl ?_
    refine x_i2l C (dkAt dk_X12_use 7 rfl) 12 rfl ?_
    refine x_lconst C (v := (0 : Int64)) (by decide) (dkAt dk_X12_use 8 rfl) 13 rfl ?_
    refine x_aload_n C rfl rfl (dkAt dk_X12_use 9 rfl) 14 rfl ?_
    refine x_getS C lk_RX12_7 (hN.sh sh108) (hN.sr sr108_2) (dkAt dk_X12_use 10 rfl) 17 rfl ?_
    refine x_iconst C (v := (1 : Int32)) (by decide) (dkAt dk_X12_use 11 rfl) 18 rfl ?_
    refine x_iald C (hN.sh sh109) (dkAt dk_X12_use 12 rfl) 19 rfl hf (fun v3 hf => ?_)
    refine x_iconst C (v := (1 : Int32)) (by decide) (dkAt dk_X12_use 13 rfl) 20 rfl ?_
    refine x_isub C (dkAt dk_X12_use 14 rfl) 21 rfl ?_
    refine x_i2l C (dkAt dk_X12_use 15 rfl) 22 rfl ?_
    obtain ⟨v4, M5, h18, hf⟩ := cl_inv hf
    refine x_cSi C (c_X12_in hN h18) mw_X12_in ln_RX12_137 ms_X12_in (ro_of (by decide) (by decide) (by decide) (by decide)) rfl rfl (Nat.le_of_ble_eq_true rfl) (dkAt dk_X12_use 16 rfl) 25 rfl 0 0 rfl rfl ?_
    refine x_join hf (fun t6 => G Γ X M5 0 0 [some (.ref (wad Γ 108)), some (.int p0), some (.int p1), some (.int p2)] [.int t6, .ref (wad Γ 108)] 33) (fun t6 hf => ?_) (fun j17 hj17 hf => ?_)
    · refine x_iconst C (v := (3 : Int32)) (by decide) (dkAt dk_X12_use 21 rfl) 34 rfl ?_
      obtain ⟨v7, M8, h16, hf⟩ := cl_inv hf
      refine x_cVi C (c_X12_refuse hN h16) mw_X12_refuse ln_RX12_68 mi_X12_refuse (hN.rc (ci := 12) sh108 rc12) (ro_of (by decide) (by decide) (by decide) (by decide)) rfl rfl (Nat.le_of_ble_eq_true rfl) (dkAt dk_X12_use 22 rfl) 37 rfl 0 0 rfl rfl ?_
      refine x_if_eq C 42 (dkAt dk_X12_use 23 rfl) 40 rfl (by decide) hf (fun hf => ?_) (fun hf => ?_)
      · refine x_aload_n C rfl rfl (dkAt dk_X12_use 26 rfl) 43 rfl ?_
        refine x_iconst C (v := (-1 : Int32)) (by decide) (dkAt dk_X12_use 27 rfl) 44 rfl ?_
        obtain ⟨v9, M10, h15, hf⟩ := cl_inv hf
        refine x_cVv C (c_X12_lays hN h15) mw_X12_lays ln_RX12_264 mi_X12_lays (hN.rc (ci := 12) sh108 rc12) (ro_of (by decide) (by decide) (by decide) (by decide)) rfl rfl (Nat.le_of_ble_eq_true rfl) (dkAt dk_X12_use 28 rfl) 47 rfl 0 0 rfl rfl ?_
        refine x_aload_n C rfl rfl (dkAt dk_X12_use 29 rfl) 48 rfl ?_
        refine x_getS C lk_RX12_36 (hN.sh sh108) (hN.sr sr108_21) (dkAt dk_X12_use 30 rfl) 51 rfl ?_
        refine x_bipush C (v := (6 : Int32)) (by decide) (dkAt dk_X12_use 31 rfl) 53 rfl ?_
        refine x_iload_n C rfl rfl (dkAt dk_X12_use 32 rfl) 54 rfl ?_
        refine x_imul C (dkAt dk_X12_use 33 rfl) 55 rfl ?_
        refine x_iload_n C rfl rfl (dkAt dk_X12_use 34 rfl) 56 rfl ?_
        refine x_iadd C (dkAt dk_X12_use 35 rfl) 57 rfl ?_
        refine x_lald C (hN.sh sh116) (dkAt dk_X12_use 36 rfl) 58 rfl hf (fun v11 hf => ?_)
        refine x_aload_n C rfl rfl (dkAt dk_X12_use 37 rfl) 59 rfl ?_
        refine x_iload_n C rfl rfl (dkAt dk_X12_use 38 rfl) 60 rfl ?_
        refine x_iload_n C rfl rfl (dkAt dk_X12_use 39 rfl) 61 rfl ?_
        obtain ⟨v12, M13, h14, hf⟩ := cl_inv hf
        refine x_cVi C (c_X12_weightOf hN h14) mw_X12_weightOf ln_RX12_252 mi_X12_weightOf (hN.rc (ci := 12) sh108 rc12) (ro_of (by decide) (by decide) (by decide) (by decide)) rfl rfl (Nat.le_of_ble_eq_true rfl) (dkAt dk_X12_use 40 rfl) 64 rfl 0 0 rfl rfl ?_
        refine x_i2l C (dkAt dk_X12_use 41 rfl) 65 rfl ?_
        refine x_lmul C (dkAt dk_X12_use 42 rfl) 66 rfl ?_
        exact x_lret C E hf (by decide) (by decide) (dkAt dk_X12_use 43 rfl)
      · refine x_lconst C (v := (0 : Int64)) (by decide) (dkAt dk_X12_use 24 rfl) 41 rfl ?_
        exact x_lret C E hf (by decide) (by decide) (dkAt dk_X12_use 25 rfl)
    · refine x_if_ne C 32 (dkAt dk_X12_use 17 rfl) 28 rfl (by decide) hf (fun hf => ?_) (fun hf => ?_)
      · refine x_iconst C (v := (0 : Int32)) (by decide) (dkAt dk_X12_use 20 rfl) 33 rfl ?_
        exact G.weak (L := [some (.ref (wad Γ 108)), some (.int p0), some (.int p1), some (.int p2)]) ⟨rfl, rfl, rfl, rfl, trivial⟩ (hj17 _ hf)
      · refine x_iconst C (v := (1 : Int32)) (by decide) (dkAt dk_X12_use 18 rfl) 29 rfl ?_
        refine x_goto C 33 (dkAt dk_X12_use 19 rfl) (by decide) ?_
        exact G.weak (L := [some (.ref (wad Γ 108)), some (.int p0), some (.int p1), some (.int p2)]) ⟨rfl, rfl, rfl, rfl, trivial⟩ (hj17 _ hf)
def f_X12_together_L5 (Z : Nat) (p0 : Int32) : Nat → Int64 → Int32 → Mem → Option (Int64 × Mem)
  | 0, _, _, _ => none
  | n + 1, x1, x2, M3 => rdI M3 109 54 (1 : Int32) (fun v4 => (if v4 < x2 then some (x1, M3) else rdL M3 116 36 (((6 : Int32) * x2) + p0) (fun v5 => rdI M3 109 54 (1 : Int32) (fun v6 => cl (f_X12_power Z M3 (1000 : Int32) (v6 - x2)) (fun v7 M8 => f_X12_together_L5 Z p0 n (x1 + (v5 * v7)) (x2 + (1 : Int32)) M8)))))
def f_X12_together (Z : Nat) (M : Mem) (p0 : Int32) : Option (Int64 × Mem) :=
  f_X12_together_L5 Z p0 Z (0 : Int64) (0 : Int32) M
set_option maxRecDepth 100000 in
theorem l_X12_together_L5 {Γ : WC} {X : MX} (hN : HN Γ) (C : CX Γ X cX12_together 5 RX12 (some .long) (rmL 1 0 0)) {rM : Int64 × Mem} (E : EndN Γ X (some (.long rM.1)) rM.2 0 0) {Z : Nat} {p0 : Int32} : ∀ (n : Nat) (x1 : Int64) (x2 : Int32) (M3 : Mem), f_X12_together_L5 Z p0 n x1 x2 M3 = some rM → G Γ X M3 0 0 [some (.ref (wad Γ 108)), some (.int p0), some (.long x1), none, some (.int x2)] [] 5 := by
  intro n
  induction n with
  | zero =>
    intro x1 x2 M3 hf
    have hf0 : (none : Option _) = some rM := hf
    cases hf0
  | succ n ih =>
    intro x1 x2 M3 hf
    rw [f_X12_together_L5] at hf
    refine x_iload C rfl (dkAt dk_X12_together 4 rfl) 7 rfl ?_
    refine x_aload_n C rfl rfl (dkAt dk_X12_together 5 rfl) 8 rfl ?_
    refine x_getS C lk_RX12_7 (hN.sh sh108) (hN.sr sr108_2) (dkAt dk_X12_together 6 rfl) 11 rfl ?_
    refine x_iconst C (v := (1 : Int32)) (by decide) (dkAt dk_X12_together 7 rfl) 12 rfl ?_
    refine x_iald C (hN.sh sh109) (dkAt dk_X12_together 8 rfl) 13 rfl hf (fun v4 hf => ?_)
    refine x_icmp_gt C 53 (dkAt dk_X12_together 9 rfl) 16 rfl (by decide) hf (fun hf => ?_) (fun hf => ?_)
    · refine x_lload_n C rfl rfl (dkAt dk_X12_together 32 rfl) 54 rfl ?_
      exact x_lret C E hf (by decide) (by decide) (dkAt dk_X12_together 33 rfl)
    · refine x_lload_n C rfl rfl (dkAt dk_X12_together 10 rfl) 17 rfl ?_
      refine x_aload_n C rfl rfl (dkAt dk_X12_together 11 rfl) 18 rfl ?_
      refine x_getS C lk_RX12_36 (hN.sh sh108) (hN.sr sr108_21) (dkAt dk_X12_together 12 rfl) 21 rfl ?_
      refine x_bipush C (v := (6 : Int32)) (by decide) (dkAt dk_X12_together 13 rfl) 23 rfl ?_
      refine x_iload C rfl (dkAt dk_X12_together 14 rfl) 25 rfl ?_
      refine x_imul C (dkAt dk_X12_together 15 rfl) 26 rfl ?_
      refine x_iload_n C rfl rfl (dkAt dk_X12_together 16 rfl) 27 rfl ?_
      refine x_iadd C (dkAt dk_X12_together 17 rfl) 28 rfl ?_
      refine x_lald C (hN.sh sh116) (dkAt dk_X12_together 18 rfl) 29 rfl hf (fun v5 hf => ?_)
      refine x_sipush C (v := (1000 : Int32)) (by decide) (dkAt dk_X12_together 19 rfl) 32 rfl ?_
      refine x_aload_n C rfl rfl (dkAt dk_X12_together 20 rfl) 33 rfl ?_
      refine x_getS C lk_RX12_7 (hN.sh sh108) (hN.sr sr108_2) (dkAt dk_X12_together 21 rfl) 36 rfl ?_
      refine x_iconst C (v := (1 : Int32)) (by decide) (dkAt dk_X12_together 22 rfl) 37 rfl ?_
      refine x_iald C (hN.sh sh109) (dkAt dk_X12_together 23 rfl) 38 rfl hf (fun v6 hf => ?_)
      refine x_iload C rfl (dkAt dk_X12_together 24 rfl) 40 rfl ?_
      refine x_isub C (dkAt dk_X12_together 25 rfl) 41 rfl ?_
      obtain ⟨v7, M8, h9, hf⟩ := cl_inv hf
      refine x_cSl C (c_X12_power hN h9) mw_X12_power ln_RX12_273 ms_X12_power (ro_of (by decide) (by decide) (by decide) (by decide)) rfl rfl (Nat.le_of_ble_eq_true rfl) (dkAt dk_X12_together 26 rfl) 44 rfl 0 0 rfl rfl ?_
      refine x_lmul C (dkAt dk_X12_together 27 rfl) 45 rfl ?_
      refine x_ladd C (dkAt dk_X12_together 28 rfl) 46 rfl ?_
      refine x_lstore_n C (L1 := [some (.ref (wad Γ 108)), some (.int p0), some (.long (x1 + (v5 * v7))), none, some (.int x2)]) (dkAt dk_X12_together 29 rfl) 47 rfl rfl (by decide) rfl ?_
      refine x_iinc C (v := (x2 + (1 : Int32))) (L1 := [some (.ref (wad Γ 108)), some (.int p0), some (.long (x1 + (v5 * v7))), none, some (.int (x2 + (1 : Int32)))]) (dkAt dk_X12_together 30 rfl) 50 rfl rfl rfl (by decide) rfl ?_
      refine x_goto C 5 (dkAt dk_X12_together 31 rfl) (by decide) ?_
      exact G.weak (L := [some (.ref (wad Γ 108)), some (.int p0), some (.long (x1 + (v5 * v7))), none, some (.int (x2 + (1 : Int32)))]) ⟨rfl, rfl, rfl, rfl, trivial⟩ (ih _ _ _ hf)
set_option maxRecDepth 100000 in
theorem c_X12_together {Γ : WC} (hN : HN Γ) {Z : Nat} {M : Mem} {p0 : Int32} {rM : Int64 × Mem}  (hf : f_X12_together Z M p0 = some rM) : Ct Γ yX12_together cX12_together 5 (some .long) (rmL 1 0 0) [.ref (wad Γ 108), .int p0] M (some (.long rM.1)) rM.2 := by
  refine mkN hN.1 (own := RX12) rfl (by decide) (Nat.le_of_ble_eq_true rfl) (fun X C E => ?_)
  change G Γ X M 0 0 [some (.ref (wad Γ 108)), some (.int p0)] [] 0
  unfold f_X12_together at hf
  refine x_lconst C (v := (0 : Int64)) (by decide) (dkAt dk_X12_together 0 rfl) 1 rfl ?_
  refine x_lstore_n C (L1 := [some (.ref (wad Γ 108)), some (.int p0), some (.long (0 : Int64))]) (dkAt dk_X12_together 1 rfl) 2 rfl rfl (by decide) rfl ?_
  refine x_iconst C (v := (0 : Int32)) (by decide) (dkAt dk_X12_together 2 rfl) 3 rfl ?_
  refine x_istore C (L1 := [some (.ref (wad Γ 108)), some (.int p0), some (.long (0 : Int64)), none, some (.int (0 : Int32))]) (dkAt dk_X12_together 3 rfl) 5 rfl (by decide) rfl ?_
  refine G.weak (L := [some (.ref (wad Γ 108)), some (.int p0), some (.long (0 : Int64)), none, some (.int (0 : Int32))]) ⟨rfl, rfl, rfl, rfl, trivial⟩ ?_
  refine l_X12_together_L5 hN C E Z _ _ _ hf
def f_X12_visits (Z : Nat) (M : Mem) (p0 : Int32) : Option (Int64 × Mem) :=
  cl (f_X12_noState Z M p0) (fun v1 M2 => (if v1 = 0 then cl (f_X12_lays Z M2 (-1 : Int32)) (fun v3 M4 => cl (f_X12_together Z M4 p0) (fun v5 M6 => some (v5, M6))) else some ((0 : Int64), M2)))
set_option maxRecDepth 100000 in
theorem c_X12_visits {Γ : WC} (hN : HN Γ) {Z : Nat} {M : Mem} {p0 : Int32} {rM : Int64 × Mem}  (hf : f_X12_visits Z M p0 = some rM) : Ct Γ yX12_visits cX12_visits 2 (some .long) (rmL 3 0 0) [.ref (wad Γ 108), .int p0] M (some (.long rM.1)) rM.2 := by
  refine mkN hN.1 (own := RX12) rfl (by decide) (Nat.le_of_ble_eq_true rfl) (fun X C E => ?_)
  change G Γ X M 0 0 [some (.ref (wad Γ 108)), some (.int p0)] [] 0
  unfold f_X12_visits at hf
  refine x_aload_n C rfl rfl (dkAt dk_X12_visits 0 rfl) 1 rfl ?_
  refine x_iload_n C rfl rfl (dkAt dk_X12_visits 1 rfl) 2 rfl ?_
  obtain ⟨v1, M2, h9, hf⟩ := cl_inv hf
  refine x_cVi C (c_X12_noState hN h9) mw_X12_noState ln_RX12_236 mi_X12_noState (hN.rc (ci := 12) sh108 rc12) (ro_of (by decide) (by decide) (by decide) (by decide)) rfl rfl (Nat.le_of_ble_eq_true rfl) (dkAt dk_X12_visits 2 rfl) 5 rfl 0 0 rfl rfl ?_
  refine x_if_eq C 10 (dkAt dk_X12_visits 3 rfl) 8 rfl (by decide) hf (fun hf => ?_) (fun hf => ?_)
  · refine x_aload_n C rfl rfl (dkAt dk_X12_visits 6 rfl) 11 rfl ?_
    refine x_iconst C (v := (-1 : Int32)) (by decide) (dkAt dk_X12_visits 7 rfl) 12 rfl ?_
    obtain ⟨v3, M4, h8, hf⟩ := cl_inv hf
    refine x_cVv C (c_X12_lays hN h8) mw_X12_lays ln_RX12_264 mi_X12_lays (hN.rc (ci := 12) sh108 rc12) (ro_of (by decide) (by decide) (by decide) (by decide)) rfl rfl (Nat.le_of_ble_eq_true rfl) (dkAt dk_X12_visits 8 rfl) 15 rfl 0 0 rfl rfl ?_
    refine x_aload_n C rfl rfl (dkAt dk_X12_visits 9 rfl) 16 rfl ?_
    refine x_iload_n C rfl rfl (dkAt dk_X12_visits 10 rfl) 17 rfl ?_
    obtain ⟨v5, M6, h7, hf⟩ := cl_inv hf
    refine x_cVl C (c_X12_together hN h7) mw_X12_together ln_RX12_277 mi_X12_together (hN.rc (ci := 12) sh108 rc12) (ro_of (by decide) (by decide) (by decide) (by decide)) rfl rfl (Nat.le_of_ble_eq_true rfl) (dkAt dk_X12_visits 11 rfl) 20 rfl 0 0 rfl rfl ?_
    exact x_lret C E hf (by decide) (by decide) (dkAt dk_X12_visits 12 rfl)
  · refine x_lconst C (v := (0 : Int64)) (by decide) (dkAt dk_X12_visits 4 rfl) 9 rfl ?_
    exact x_lret C E hf (by decide) (by decide) (dkAt dk_X12_visits 5 rfl)
def f_X12_hit (Z : Nat) (M : Mem) (p0 : Int32) : Option (Int64 × Mem) :=
  cl (f_X12_noState Z M p0) (fun v1 M2 => (if v1 = 0 then cl (f_X12_lays Z M2 p0) (fun v3 M4 => cl (f_X12_together Z M4 p0) (fun v5 M6 => some (v5, M6))) else some ((0 : Int64), M2)))
set_option maxRecDepth 100000 in
theorem c_X12_hit {Γ : WC} (hN : HN Γ) {Z : Nat} {M : Mem} {p0 : Int32} {rM : Int64 × Mem}  (hf : f_X12_hit Z M p0 = some rM) : Ct Γ yX12_hit cX12_hit 2 (some .long) (rmL 3 0 0) [.ref (wad Γ 108), .int p0] M (some (.long rM.1)) rM.2 := by
  refine mkN hN.1 (own := RX12) rfl (by decide) (Nat.le_of_ble_eq_true rfl) (fun X C E => ?_)
  change G Γ X M 0 0 [some (.ref (wad Γ 108)), some (.int p0)] [] 0
  unfold f_X12_hit at hf
  refine x_aload_n C rfl rfl (dkAt dk_X12_hit 0 rfl) 1 rfl ?_
  refine x_iload_n C rfl rfl (dkAt dk_X12_hit 1 rfl) 2 rfl ?_
  obtain ⟨v1, M2, h9, hf⟩ := cl_inv hf
  refine x_cVi C (c_X12_noState hN h9) mw_X12_noState ln_RX12_236 mi_X12_noState (hN.rc (ci := 12) sh108 rc12) (ro_of (by decide) (by decide) (by decide) (by decide)) rfl rfl (Nat.le_of_ble_eq_true rfl) (dkAt dk_X12_hit 2 rfl) 5 rfl 0 0 rfl rfl ?_
  refine x_if_eq C 10 (dkAt dk_X12_hit 3 rfl) 8 rfl (by decide) hf (fun hf => ?_) (fun hf => ?_)
  · refine x_aload_n C rfl rfl (dkAt dk_X12_hit 6 rfl) 11 rfl ?_
    refine x_iload_n C rfl rfl (dkAt dk_X12_hit 7 rfl) 12 rfl ?_
    obtain ⟨v3, M4, h8, hf⟩ := cl_inv hf
    refine x_cVv C (c_X12_lays hN h8) mw_X12_lays ln_RX12_264 mi_X12_lays (hN.rc (ci := 12) sh108 rc12) (ro_of (by decide) (by decide) (by decide) (by decide)) rfl rfl (Nat.le_of_ble_eq_true rfl) (dkAt dk_X12_hit 8 rfl) 15 rfl 0 0 rfl rfl ?_
    refine x_aload_n C rfl rfl (dkAt dk_X12_hit 9 rfl) 16 rfl ?_
    refine x_iload_n C rfl rfl (dkAt dk_X12_hit 10 rfl) 17 rfl ?_
    obtain ⟨v5, M6, h7, hf⟩ := cl_inv hf
    refine x_cVl C (c_X12_together hN h7) mw_X12_together ln_RX12_277 mi_X12_together (hN.rc (ci := 12) sh108 rc12) (ro_of (by decide) (by decide) (by decide) (by decide)) rfl rfl (Nat.le_of_ble_eq_true rfl) (dkAt dk_X12_hit 11 rfl) 20 rfl 0 0 rfl rfl ?_
    exact x_lret C E hf (by decide) (by decide) (dkAt dk_X12_hit 12 rfl)
  · refine x_lconst C (v := (0 : Int64)) (by decide) (dkAt dk_X12_hit 4 rfl) 9 rfl ?_
    exact x_lret C E hf (by decide) (by decide) (dkAt dk_X12_hit 5 rfl)
def f_X12_unitNow (Z : Nat) (M : Mem)  : Option (Int64 × Mem) :=
  rdI M 109 54 (1 : Int32) (fun v1 => cl (f_X12_power Z M (1000 : Int32) (v1 - (1 : Int32))) (fun v2 M3 => some (((10 : Int64) * v2), M3)))
set_option maxRecDepth 100000 in
theorem c_X12_unitNow {Γ : WC} (hN : HN Γ) {Z : Nat} {M : Mem}  {rM : Int64 × Mem}  (hf : f_X12_unitNow Z M  = some rM) : Ct Γ yX12_unitNow cX12_unitNow 1 (some .long) (rmL 1 0 0) [.ref (wad Γ 108)] M (some (.long rM.1)) rM.2 := by
  refine mkN hN.1 (own := RX12) rfl (by decide) (Nat.le_of_ble_eq_true rfl) (fun X C E => ?_)
  change G Γ X M 0 0 [some (.ref (wad Γ 108))] [] 0
  unfold f_X12_unitNow at hf
  refine x_ldc2 C (v := (10 : Int64)) cl_RX12_281 (dkAt dk_X12_unitNow 0 rfl) 3 rfl ?_
  refine x_sipush C (v := (1000 : Int32)) (by decide) (dkAt dk_X12_unitNow 1 rfl) 6 rfl ?_
  refine x_aload_n C rfl rfl (dkAt dk_X12_unitNow 2 rfl) 7 rfl ?_
  refine x_getS C lk_RX12_7 (hN.sh sh108) (hN.sr sr108_2) (dkAt dk_X12_unitNow 3 rfl) 10 rfl ?_
  refine x_iconst C (v := (1 : Int32)) (by decide) (dkAt dk_X12_unitNow 4 rfl) 11 rfl ?_
  refine x_iald C (hN.sh sh109) (dkAt dk_X12_unitNow 5 rfl) 12 rfl hf (fun v1 hf => ?_)
  refine x_iconst C (v := (1 : Int32)) (by decide) (dkAt dk_X12_unitNow 6 rfl) 13 rfl ?_
  refine x_isub C (dkAt dk_X12_unitNow 7 rfl) 14 rfl ?_
  obtain ⟨v2, M3, h4, hf⟩ := cl_inv hf
  refine x_cSl C (c_X12_power hN h4) mw_X12_power ln_RX12_273 ms_X12_power (ro_of (by decide) (by decide) (by decide) (by decide)) rfl rfl (Nat.le_of_ble_eq_true rfl) (dkAt dk_X12_unitNow 8 rfl) 17 rfl 0 0 rfl rfl ?_
  refine x_lmul C (dkAt dk_X12_unitNow 9 rfl) 18 rfl ?_
  exact x_lret C E hf (by decide) (by decide) (dkAt dk_X12_unitNow 10 rfl)
def f_X12_unit (Z : Nat) (M : Mem)  : Option (Int64 × Mem) :=
  cl (f_X12_noChain Z M) (fun v1 M2 => (if v1 = 0 then cl (f_X12_unitNow Z M2) (fun v3 M4 => some (v3, M4)) else some ((0 : Int64), M2)))
set_option maxRecDepth 100000 in
theorem c_X12_unit {Γ : WC} (hN : HN Γ) {Z : Nat} {M : Mem}  {rM : Int64 × Mem}  (hf : f_X12_unit Z M  = some rM) : Ct Γ yX12_unit cX12_unit 1 (some .long) (rmL 2 0 0) [.ref (wad Γ 108)] M (some (.long rM.1)) rM.2 := by
  refine mkN hN.1 (own := RX12) rfl (by decide) (Nat.le_of_ble_eq_true rfl) (fun X C E => ?_)
  change G Γ X M 0 0 [some (.ref (wad Γ 108))] [] 0
  unfold f_X12_unit at hf
  refine x_aload_n C rfl rfl (dkAt dk_X12_unit 0 rfl) 1 rfl ?_
  obtain ⟨v1, M2, h6, hf⟩ := cl_inv hf
  refine x_cVi C (c_X12_noChain hN h6) mw_X12_noChain ln_RX12_222 mi_X12_noChain (hN.rc (ci := 12) sh108 rc12) (ro_of (by decide) (by decide) (by decide) (by decide)) rfl rfl (Nat.le_of_ble_eq_true rfl) (dkAt dk_X12_unit 1 rfl) 4 rfl 0 0 rfl rfl ?_
  refine x_if_eq C 11 (dkAt dk_X12_unit 2 rfl) 7 rfl (by decide) hf (fun hf => ?_) (fun hf => ?_)
  · refine x_aload_n C rfl rfl (dkAt dk_X12_unit 5 rfl) 12 rfl ?_
    obtain ⟨v3, M4, h5, hf⟩ := cl_inv hf
    refine x_cVl C (c_X12_unitNow hN h5) mw_X12_unitNow ln_RX12_283 mi_X12_unitNow (hN.rc (ci := 12) sh108 rc12) (ro_of (by decide) (by decide) (by decide) (by decide)) rfl rfl (Nat.le_of_ble_eq_true rfl) (dkAt dk_X12_unit 6 rfl) 15 rfl 0 0 rfl rfl ?_
    exact x_lret C E hf (by decide) (by decide) (dkAt dk_X12_unit 7 rfl)
  · refine x_lconst C (v := (0 : Int64)) (by decide) (dkAt dk_X12_unit 3 rfl) 8 rfl ?_
    refine x_goto C 15 (dkAt dk_X12_unit 4 rfl) (by decide) ?_
    exact x_lret C E hf (by decide) (by decide) (dkAt dk_X12_unit 7 rfl)
def f_X12_ofRun_L57 (Z : Nat) (p0 : Int32) (x4 : Int32) (v8 : Int64) (x11 : Int32) (k : Int64 → Mem → Option (Int64 × Mem)) : Nat → Int64 → Int32 → Mem → Option (Int64 × Mem)
  | 0, _, _, _ => none
  | n + 1, x14, x15, M16 => rdI M16 112 344 ((8 : Int32) + x11) (fun v17 => (if v17 ≤ x15 then k x14 M16 else jn (fun (t18 : Int32 × Mem) => rdL t18.2 116 36 (((6 : Int32) * x4) + x11) (fun v19 => cl (f_X12_weightOf Z t18.2 x11 x15) (fun v20 M21 => f_X12_ofRun_L57 Z p0 x4 v8 x11 k n (x14 + (((v19 * v20.toInt64) * t18.1.toInt64) * v8)) (x15 + (1 : Int32)) M21))) (fun j23 => (if 0 ≤ p0 then cl (f_X12_usesBy Z M16 x11 x15 p0) (fun v24 M25 => j23 (v24, M25)) else cl (f_X12_gainBy Z M16 x11 x15) (fun v27 M28 => j23 (v27, M28))))))
def f_X12_ofRun_L43 (Z : Nat) (p0 : Int32) (x4 : Int32) (v8 : Int64) (k : Int64 → Mem → Option (Int64 × Mem)) : Nat → Int64 → Int32 → Mem → Option (Int64 × Mem)
  | 0, _, _, _ => none
  | n + 1, x10, x11, M12 => rdI M12 112 344 (0 : Int32) (fun v13 => (if v13 ≤ x11 then k x10 M12 else f_X12_ofRun_L57 Z p0 x4 v8 x11 (fun (y30 : Int64) (M31 : Mem) => f_X12_ofRun_L43 Z p0 x4 v8 k n y30 (x11 + (1 : Int32)) M31) Z x10 (0 : Int32) M12))
def f_X12_ofRun_L10 (Z : Nat) (p0 : Int32) : Nat → Int64 → Int32 → Mem → Option (Int64 × Mem)
  | 0, _, _, _ => none
  | n + 1, x3, x4, M5 => rdI M5 109 54 (1 : Int32) (fun v6 => (if v6 ≤ x4 then some (x3, M5) else rdI M5 109 54 (1 : Int32) (fun v7 => cl (f_X12_power Z M5 (1000 : Int32) ((v7 - (1 : Int32)) - x4)) (fun v8 M9 => f_X12_ofRun_L43 Z p0 x4 v8 (fun (y32 : Int64) (M33 : Mem) => f_X12_ofRun_L10 Z p0 n y32 (x4 + (1 : Int32)) M33) Z x3 (0 : Int32) M9))))
def f_X12_ofRun (Z : Nat) (M : Mem) (p0 : Int32) : Option (Int64 × Mem) :=
  cl (f_X12_lays Z M (-1 : Int32)) (fun v1 M2 => f_X12_ofRun_L10 Z p0 Z (0 : Int64) (0 : Int32) M2)
set_option maxRecDepth 100000 in
theorem l_X12_ofRun_L57 {Γ : WC} {X : MX} (hN : HN Γ) (C : CX Γ X cX12_ofRun 10 RX12 (some .long) (rmL 3 0 0)) {rM : Int64 × Mem} (E : EndN Γ X (some (.long rM.1)) rM.2 0 0) {Z : Nat} {p0 : Int32} {x4 : Int32} {v8 : Int64} {x11 : Int32} {k : Int64 → Mem → Option (Int64 × Mem)} (hk : ∀ (a2 : Int64) (Mx : Mem), k a2 Mx = some rM → G Γ X Mx 0 0 [some (.ref (wad Γ 108)), some (.int p0), some (.long a2), none, some (.int x4), some (.long v8), none, some (.int x11)] [] 137) : ∀ (n : Nat) (x14 : Int64) (x15 : Int32) (M16 : Mem), f_X12_ofRun_L57 Z p0 x4 v8 x11 k n x14 x15 M16 = some rM → G Γ X M16 0 0 [some (.ref (wad Γ 108)), some (.int p0), some (.long x14), none, some (.int x4), some (.long v8), none, some (.int x11), some (.int x15)] [] 57 := by
  intro n
  induction n with
  | zero =>
    intro x14 x15 M16 hf
    have hf0 : (none : Option _) = some rM := hf
    cases hf0
  | succ n ih =>
    intro x14 x15 M16 hf
    rw [f_X12_ofRun_L57] at hf
    refine x_iload C rfl (dkAt dk_X12_ofRun 34 rfl) 59 rfl ?_
    refine x_aload_n C rfl rfl (dkAt dk_X12_ofRun 35 rfl) 60 rfl ?_
    refine x_getS C lk_RX12_20 (hN.sh sh108) (hN.sr sr108_6) (dkAt dk_X12_ofRun 36 rfl) 63 rfl ?_
    refine x_bipush C (v := (8 : Int32)) (by decide) (dkAt dk_X12_ofRun 37 rfl) 65 rfl ?_
    refine x_iload C rfl (dkAt dk_X12_ofRun 38 rfl) 67 rfl ?_
    refine x_iadd C (dkAt dk_X12_ofRun 39 rfl) 68 rfl ?_
    refine x_iald C (hN.sh sh112) (dkAt dk_X12_ofRun 40 rfl) 69 rfl hf (fun v17 hf => ?_)
    refine x_icmp_ge C 137 (dkAt dk_X12_ofRun 41 rfl) 72 rfl (by decide) hf (fun hf => ?_) (fun hf => ?_)
    · exact G.weak (L := [some (.ref (wad Γ 108)), some (.int p0), some (.long x14), none, some (.int x4), some (.long v8), none, some (.int x11)]) ⟨rfl, rfl, rfl, rfl, rfl, rfl, trivial⟩ (hk _ _ hf)
    · refine x_iload_n C rfl rfl (dkAt dk_X12_ofRun 42 rfl) 73 rfl ?_
      refine x_join hf (fun t18 => G Γ X t18.2 0 0 [some (.ref (wad Γ 108)), some (.int p0), some (.long x14), none, some (.int x4), some (.long v8), none, some (.int x11), some (.int x15)] [.int t18.1] 96) (fun t18 hf => ?_) (fun j23 hj23 hf => ?_)
      · refine x_istore C (L1 := [some (.ref (wad Γ 108)), some (.int p0), some (.long x14), none, some (.int x4), some (.long v8), none, some (.int x11), some (.int x15), some (.int t18.1)]) (dkAt dk_X12_ofRun 54 rfl) 98 rfl (by decide) rfl ?_
        refine x_lload_n C rfl rfl (dkAt dk_X12_ofRun 55 rfl) 99 rfl ?_
        refine x_aload_n C rfl rfl (dkAt dk_X12_ofRun 56 rfl) 100 rfl ?_
        refine x_getS C lk_RX12_36 (hN.sh sh108) (hN.sr sr108_21) (dkAt dk_X12_ofRun 57 rfl) 103 rfl ?_
        refine x_bipush C (v := (6 : Int32)) (by decide) (dkAt dk_X12_ofRun 58 rfl) 105 rfl ?_
        refine x_iload C rfl (dkAt dk_X12_ofRun 59 rfl) 107 rfl ?_
        refine x_imul C (dkAt dk_X12_ofRun 60 rfl) 108 rfl ?_
        refine x_iload C rfl (dkAt dk_X12_ofRun 61 rfl) 110 rfl ?_
        refine x_iadd C (dkAt dk_X12_ofRun 62 rfl) 111 rfl ?_
        refine x_lald C (hN.sh sh116) (dkAt dk_X12_ofRun 63 rfl) 112 rfl hf (fun v19 hf => ?_)
        refine x_aload_n C rfl rfl (dkAt dk_X12_ofRun 64 rfl) 113 rfl ?_
        refine x_iload C rfl (dkAt dk_X12_ofRun 65 rfl) 115 rfl ?_
        refine x_iload C rfl (dkAt dk_X12_ofRun 66 rfl) 117 rfl ?_
        obtain ⟨v20, M21, h22, hf⟩ := cl_inv hf
        refine x_cVi C (c_X12_weightOf hN h22) mw_X12_weightOf ln_RX12_252 mi_X12_weightOf (hN.rc (ci := 12) sh108 rc12) (ro_of (by decide) (by decide) (by decide) (by decide)) rfl rfl (Nat.le_of_ble_eq_true rfl) (dkAt dk_X12_ofRun 67 rfl) 120 rfl 0 0 rfl rfl ?_
        refine x_i2l C (dkAt dk_X12_ofRun 68 rfl) 121 rfl ?_
        refine x_lmul C (dkAt dk_X12_ofRun 69 rfl) 122 rfl ?_
        refine x_iload C rfl (dkAt dk_X12_ofRun 70 rfl) 124 rfl ?_
        refine x_i2l C (dkAt dk_X12_ofRun 71 rfl) 125 rfl ?_
        refine x_lmul C (dkAt dk_X12_ofRun 72 rfl) 126 rfl ?_
        refine x_lload C rfl (dkAt dk_X12_ofRun 73 rfl) 128 rfl ?_
        refine x_lmul C (dkAt dk_X12_ofRun 74 rfl) 129 rfl ?_
        refine x_ladd C (dkAt dk_X12_ofRun 75 rfl) 130 rfl ?_
        refine x_lstore_n C (L1 := [some (.ref (wad Γ 108)), some (.int p0), some (.long (x14 + (((v19 * v20.toInt64) * t18.1.toInt64) * v8))), none, some (.int x4), some (.long v8), none, some (.int x11), some (.int x15), some (.int t18.1)]) (dkAt dk_X12_ofRun 76 rfl) 131 rfl rfl (by decide) rfl ?_
        refine x_iinc C (v := (x15 + (1 : Int32))) (L1 := [some (.ref (wad Γ 108)), some (.int p0), some (.long (x14 + (((v19 * v20.toInt64) * t18.1.toInt64) * v8))), none, some (.int x4), some (.long v8), none, some (.int x11), some (.int (x15 + (1 : Int32))), some (.int t18.1)]) (dkAt dk_X12_ofRun 77 rfl) 134 rfl rfl rfl (by decide) rfl ?_
        refine x_goto C 57 (dkAt dk_X12_ofRun 78 rfl) (by decide) ?_
        exact G.weak (L := [some (.ref (wad Γ 108)), some (.int p0), some (.long (x14 + (((v19 * v20.toInt64) * t18.1.toInt64) * v8))), none, some (.int x4), some (.long v8), none, some (.int x11), some (.int (x15 + (1 : Int32)))]) ⟨rfl, rfl, rfl, rfl, rfl, rfl, rfl, trivial⟩ (ih _ _ _ hf)
      · refine x_if_ge C 87 (dkAt dk_X12_ofRun 43 rfl) 76 rfl (by decide) hf (fun hf => ?_) (fun hf => ?_)
        · refine x_aload_n C rfl rfl (dkAt dk_X12_ofRun 49 rfl) 88 rfl ?_
          refine x_iload C rfl (dkAt dk_X12_ofRun 50 rfl) 90 rfl ?_
          refine x_iload C rfl (dkAt dk_X12_ofRun 51 rfl) 92 rfl ?_
          refine x_iload_n C rfl rfl (dkAt dk_X12_ofRun 52 rfl) 93 rfl ?_
          obtain ⟨v24, M25, h26, hf⟩ := cl_inv hf
          refine x_cVi C (c_X12_usesBy hN h26) mw_X12_usesBy ln_RX12_245 mi_X12_usesBy (hN.rc (ci := 12) sh108 rc12) (ro_of (by decide) (by decide) (by decide) (by decide)) rfl rfl (Nat.le_of_ble_eq_true rfl) (dkAt dk_X12_ofRun 53 rfl) 96 rfl 0 0 rfl rfl ?_
          exact G.weak (L := [some (.ref (wad Γ 108)), some (.int p0), some (.long x14), none, some (.int x4), some (.long v8), none, some (.int x11), some (.int x15)]) ⟨rfl, rfl, rfl, rfl, rfl, rfl, rfl, trivial⟩ (hj23 _ hf)
        · refine x_aload_n C rfl rfl (dkAt dk_X12_ofRun 44 rfl) 77 rfl ?_
          refine x_iload C rfl (dkAt dk_X12_ofRun 45 rfl) 79 rfl ?_
          refine x_iload C rfl (dkAt dk_X12_ofRun 46 rfl) 81 rfl ?_
          obtain ⟨v27, M28, h29, hf⟩ := cl_inv hf
          refine x_cVi C (c_X12_gainBy hN h29) mw_X12_gainBy ln_RX12_242 mi_X12_gainBy (hN.rc (ci := 12) sh108 rc12) (ro_of (by decide) (by decide) (by decide) (by decide)) rfl rfl (Nat.le_of_ble_eq_true rfl) (dkAt dk_X12_ofRun 47 rfl) 84 rfl 0 0 rfl rfl ?_
          refine x_goto C 96 (dkAt dk_X12_ofRun 48 rfl) (by decide) ?_
          exact G.weak (L := [some (.ref (wad Γ 108)), some (.int p0), some (.long x14), none, some (.int x4), some (.long v8), none, some (.int x11), some (.int x15)]) ⟨rfl, rfl, rfl, rfl, rfl, rfl, rfl, trivial⟩ (hj23 _ hf)
set_option maxRecDepth 100000 in
theorem l_X12_ofRun_L43 {Γ : WC} {X : MX} (hN : HN Γ) (C : CX Γ X cX12_ofRun 10 RX12 (some .long) (rmL 3 0 0)) {rM : Int64 × Mem} (E : EndN Γ X (some (.long rM.1)) rM.2 0 0) {Z : Nat} {p0 : Int32} {x4 : Int32} {v8 : Int64} {k : Int64 → Mem → Option (Int64 × Mem)} (hk : ∀ (a2 : Int64) (Mx : Mem), k a2 Mx = some rM → G Γ X Mx 0 0 [some (.ref (wad Γ 108)), some (.int p0), some (.long a2), none, some (.int x4)] [] 143) : ∀ (n : Nat) (x10 : Int64) (x11 : Int32) (M12 : Mem), f_X12_ofRun_L43 Z p0 x4 v8 k n x10 x11 M12 = some rM → G Γ X M12 0 0 [some (.ref (wad Γ 108)), some (.int p0), some (.long x10), none, some (.int x4), some (.long v8), none, some (.int x11)] [] 43 := by
  intro n
  induction n with
  | zero =>
    intro x10 x11 M12 hf
    have hf0 : (none : Option _) = some rM := hf
    cases hf0
  | succ n ih =>
    intro x10 x11 M12 hf
    rw [f_X12_ofRun_L43] at hf
    refine x_iload C rfl (dkAt dk_X12_ofRun 26 rfl) 45 rfl ?_
    refine x_aload_n C rfl rfl (dkAt dk_X12_ofRun 27 rfl) 46 rfl ?_
    refine x_getS C lk_RX12_20 (hN.sh sh108) (hN.sr sr108_6) (dkAt dk_X12_ofRun 28 rfl) 49 rfl ?_
    refine x_iconst C (v := (0 : Int32)) (by decide) (dkAt dk_X12_ofRun 29 rfl) 50 rfl ?_
    refine x_iald C (hN.sh sh112) (dkAt dk_X12_ofRun 30 rfl) 51 rfl hf (fun v13 hf => ?_)
    refine x_icmp_ge C 143 (dkAt dk_X12_ofRun 31 rfl) 54 rfl (by decide) hf (fun hf => ?_) (fun hf => ?_)
    · exact G.weak (L := [some (.ref (wad Γ 108)), some (.int p0), some (.long x10), none, some (.int x4)]) ⟨rfl, rfl, rfl, rfl, trivial⟩ (hk _ _ hf)
    · refine x_iconst C (v := (0 : Int32)) (by decide) (dkAt dk_X12_ofRun 32 rfl) 55 rfl ?_
      refine x_istore C (L1 := [some (.ref (wad Γ 108)), some (.int p0), some (.long x10), none, some (.int x4), some (.long v8), none, some (.int x11), some (.int (0 : Int32))]) (dkAt dk_X12_ofRun 33 rfl) 57 rfl (by decide) rfl ?_
      refine G.weak (L := [some (.ref (wad Γ 108)), some (.int p0), some (.long x10), none, some (.int x4), some (.long v8), none, some (.int x11), some (.int (0 : Int32))]) ⟨rfl, rfl, rfl, rfl, rfl, rfl, rfl, trivial⟩ ?_
      refine l_X12_ofRun_L57 hN C E ?_ Z _ _ _ hf
      intro y30 M31 hf
      refine x_iinc C (v := (x11 + (1 : Int32))) (L1 := [some (.ref (wad Γ 108)), some (.int p0), some (.long y30), none, some (.int x4), some (.long v8), none, some (.int (x11 + (1 : Int32)))]) (dkAt dk_X12_ofRun 79 rfl) 140 rfl rfl rfl (by decide) rfl ?_
      refine x_goto C 43 (dkAt dk_X12_ofRun 80 rfl) (by decide) ?_
      exact G.weak (L := [some (.ref (wad Γ 108)), some (.int p0), some (.long y30), none, some (.int x4), some (.long v8), none, some (.int (x11 + (1 : Int32)))]) ⟨rfl, rfl, rfl, rfl, rfl, rfl, trivial⟩ (ih _ _ _ hf)
set_option maxRecDepth 100000 in
theorem l_X12_ofRun_L10 {Γ : WC} {X : MX} (hN : HN Γ) (C : CX Γ X cX12_ofRun 10 RX12 (some .long) (rmL 3 0 0)) {rM : Int64 × Mem} (E : EndN Γ X (some (.long rM.1)) rM.2 0 0) {Z : Nat} {p0 : Int32} : ∀ (n : Nat) (x3 : Int64) (x4 : Int32) (M5 : Mem), f_X12_ofRun_L10 Z p0 n x3 x4 M5 = some rM → G Γ X M5 0 0 [some (.ref (wad Γ 108)), some (.int p0), some (.long x3), none, some (.int x4)] [] 10 := by
  intro n
  induction n with
  | zero =>
    intro x3 x4 M5 hf
    have hf0 : (none : Option _) = some rM := hf
    cases hf0
  | succ n ih =>
    intro x3 x4 M5 hf
    rw [f_X12_ofRun_L10] at hf
    refine x_iload C rfl (dkAt dk_X12_ofRun 7 rfl) 12 rfl ?_
    refine x_aload_n C rfl rfl (dkAt dk_X12_ofRun 8 rfl) 13 rfl ?_
    refine x_getS C lk_RX12_7 (hN.sh sh108) (hN.sr sr108_2) (dkAt dk_X12_ofRun 9 rfl) 16 rfl ?_
    refine x_iconst C (v := (1 : Int32)) (by decide) (dkAt dk_X12_ofRun 10 rfl) 17 rfl ?_
    refine x_iald C (hN.sh sh109) (dkAt dk_X12_ofRun 11 rfl) 18 rfl hf (fun v6 hf => ?_)
    refine x_icmp_ge C 149 (dkAt dk_X12_ofRun 12 rfl) 21 rfl (by decide) hf (fun hf => ?_) (fun hf => ?_)
    · refine x_lload_n C rfl rfl (dkAt dk_X12_ofRun 83 rfl) 150 rfl ?_
      exact x_lret C E hf (by decide) (by decide) (dkAt dk_X12_ofRun 84 rfl)
    · refine x_sipush C (v := (1000 : Int32)) (by decide) (dkAt dk_X12_ofRun 13 rfl) 24 rfl ?_
      refine x_aload_n C rfl rfl (dkAt dk_X12_ofRun 14 rfl) 25 rfl ?_
      refine x_getS C lk_RX12_7 (hN.sh sh108) (hN.sr sr108_2) (dkAt dk_X12_ofRun 15 rfl) 28 rfl ?_
      refine x_iconst C (v := (1 : Int32)) (by decide) (dkAt dk_X12_ofRun 16 rfl) 29 rfl ?_
      refine x_iald C (hN.sh sh109) (dkAt dk_X12_ofRun 17 rfl) 30 rfl hf (fun v7 hf => ?_)
      refine x_iconst C (v := (1 : Int32)) (by decide) (dkAt dk_X12_ofRun 18 rfl) 31 rfl ?_
      refine x_isub C (dkAt dk_X12_ofRun 19 rfl) 32 rfl ?_
      refine x_iload C rfl (dkAt dk_X12_ofRun 20 rfl) 34 rfl ?_
      refine x_isub C (dkAt dk_X12_ofRun 21 rfl) 35 rfl ?_
      obtain ⟨v8, M9, h34, hf⟩ := cl_inv hf
      refine x_cSl C (c_X12_power hN h34) mw_X12_power ln_RX12_273 ms_X12_power (ro_of (by decide) (by decide) (by decide) (by decide)) rfl rfl (Nat.le_of_ble_eq_true rfl) (dkAt dk_X12_ofRun 22 rfl) 38 rfl 0 0 rfl rfl ?_
      refine x_lstore C (L1 := [some (.ref (wad Γ 108)), some (.int p0), some (.long x3), none, some (.int x4), some (.long v8)]) (dkAt dk_X12_ofRun 23 rfl) 40 rfl (by decide) rfl ?_
      refine x_iconst C (v := (0 : Int32)) (by decide) (dkAt dk_X12_ofRun 24 rfl) 41 rfl ?_
      refine x_istore C (L1 := [some (.ref (wad Γ 108)), some (.int p0), some (.long x3), none, some (.int x4), some (.long v8), none, some (.int (0 : Int32))]) (dkAt dk_X12_ofRun 25 rfl) 43 rfl (by decide) rfl ?_
      refine G.weak (L := [some (.ref (wad Γ 108)), some (.int p0), some (.long x3), none, some (.int x4), some (.long v8), none, some (.int (0 : Int32))]) ⟨rfl, rfl, rfl, rfl, rfl, rfl, trivial⟩ ?_
      refine l_X12_ofRun_L43 hN C E ?_ Z _ _ _ hf
      intro y32 M33 hf
      refine x_iinc C (v := (x4 + (1 : Int32))) (L1 := [some (.ref (wad Γ 108)), some (.int p0), some (.long y32), none, some (.int (x4 + (1 : Int32)))]) (dkAt dk_X12_ofRun 81 rfl) 146 rfl rfl rfl (by decide) rfl ?_
      refine x_goto C 10 (dkAt dk_X12_ofRun 82 rfl) (by decide) ?_
      exact G.weak (L := [some (.ref (wad Γ 108)), some (.int p0), some (.long y32), none, some (.int (x4 + (1 : Int32)))]) ⟨rfl, rfl, rfl, rfl, trivial⟩ (ih _ _ _ hf)
set_option maxRecDepth 100000 in
theorem c_X12_ofRun {Γ : WC} (hN : HN Γ) {Z : Nat} {M : Mem} {p0 : Int32} {rM : Int64 × Mem}  (hf : f_X12_ofRun Z M p0 = some rM) : Ct Γ yX12_ofRun cX12_ofRun 10 (some .long) (rmL 3 0 0) [.ref (wad Γ 108), .int p0] M (some (.long rM.1)) rM.2 := by
  refine mkN hN.1 (own := RX12) rfl (by decide) (Nat.le_of_ble_eq_true rfl) (fun X C E => ?_)
  change G Γ X M 0 0 [some (.ref (wad Γ 108)), some (.int p0)] [] 0
  unfold f_X12_ofRun at hf
  refine x_aload_n C rfl rfl (dkAt dk_X12_ofRun 0 rfl) 1 rfl ?_
  refine x_iconst C (v := (-1 : Int32)) (by decide) (dkAt dk_X12_ofRun 1 rfl) 2 rfl ?_
  obtain ⟨v1, M2, h35, hf⟩ := cl_inv hf
  refine x_cVv C (c_X12_lays hN h35) mw_X12_lays ln_RX12_264 mi_X12_lays (hN.rc (ci := 12) sh108 rc12) (ro_of (by decide) (by decide) (by decide) (by decide)) rfl rfl (Nat.le_of_ble_eq_true rfl) (dkAt dk_X12_ofRun 2 rfl) 5 rfl 0 0 rfl rfl ?_
  refine x_lconst C (v := (0 : Int64)) (by decide) (dkAt dk_X12_ofRun 3 rfl) 6 rfl ?_
  refine x_lstore_n C (L1 := [some (.ref (wad Γ 108)), some (.int p0), some (.long (0 : Int64))]) (dkAt dk_X12_ofRun 4 rfl) 7 rfl rfl (by decide) rfl ?_
  refine x_iconst C (v := (0 : Int32)) (by decide) (dkAt dk_X12_ofRun 5 rfl) 8 rfl ?_
  refine x_istore C (L1 := [some (.ref (wad Γ 108)), some (.int p0), some (.long (0 : Int64)), none, some (.int (0 : Int32))]) (dkAt dk_X12_ofRun 6 rfl) 10 rfl (by decide) rfl ?_
  refine G.weak (L := [some (.ref (wad Γ 108)), some (.int p0), some (.long (0 : Int64)), none, some (.int (0 : Int32))]) ⟨rfl, rfl, rfl, rfl, trivial⟩ ?_
  refine l_X12_ofRun_L10 hN C E Z _ _ _ hf
def f_X12_gainOfRun (Z : Nat) (M : Mem)  : Option (Int64 × Mem) :=
  cl (f_X12_noChain Z M) (fun v1 M2 => (if v1 = 0 then cl (f_X12_ofRun Z M2 (-1 : Int32)) (fun v3 M4 => some (v3, M4)) else some ((0 : Int64), M2)))
set_option maxRecDepth 100000 in
theorem c_X12_gainOfRun {Γ : WC} (hN : HN Γ) {Z : Nat} {M : Mem}  {rM : Int64 × Mem}  (hf : f_X12_gainOfRun Z M  = some rM) : Ct Γ yX12_gainOfRun cX12_gainOfRun 1 (some .long) (rmL 4 0 0) [.ref (wad Γ 108)] M (some (.long rM.1)) rM.2 := by
  refine mkN hN.1 (own := RX12) rfl (by decide) (Nat.le_of_ble_eq_true rfl) (fun X C E => ?_)
  change G Γ X M 0 0 [some (.ref (wad Γ 108))] [] 0
  unfold f_X12_gainOfRun at hf
  refine x_aload_n C rfl rfl (dkAt dk_X12_gainOfRun 0 rfl) 1 rfl ?_
  obtain ⟨v1, M2, h6, hf⟩ := cl_inv hf
  refine x_cVi C (c_X12_noChain hN h6) mw_X12_noChain ln_RX12_222 mi_X12_noChain (hN.rc (ci := 12) sh108 rc12) (ro_of (by decide) (by decide) (by decide) (by decide)) rfl rfl (Nat.le_of_ble_eq_true rfl) (dkAt dk_X12_gainOfRun 1 rfl) 4 rfl 0 0 rfl rfl ?_
  refine x_if_eq C 11 (dkAt dk_X12_gainOfRun 2 rfl) 7 rfl (by decide) hf (fun hf => ?_) (fun hf => ?_)
  · refine x_aload_n C rfl rfl (dkAt dk_X12_gainOfRun 5 rfl) 12 rfl ?_
    refine x_iconst C (v := (-1 : Int32)) (by decide) (dkAt dk_X12_gainOfRun 6 rfl) 13 rfl ?_
    obtain ⟨v3, M4, h5, hf⟩ := cl_inv hf
    refine x_cVl C (c_X12_ofRun hN h5) mw_X12_ofRun ln_RX12_287 mi_X12_ofRun (hN.rc (ci := 12) sh108 rc12) (ro_of (by decide) (by decide) (by decide) (by decide)) rfl rfl (Nat.le_of_ble_eq_true rfl) (dkAt dk_X12_gainOfRun 7 rfl) 16 rfl 0 0 rfl rfl ?_
    exact x_lret C E hf (by decide) (by decide) (dkAt dk_X12_gainOfRun 8 rfl)
  · refine x_lconst C (v := (0 : Int64)) (by decide) (dkAt dk_X12_gainOfRun 3 rfl) 8 rfl ?_
    refine x_goto C 16 (dkAt dk_X12_gainOfRun 4 rfl) (by decide) ?_
    exact x_lret C E hf (by decide) (by decide) (dkAt dk_X12_gainOfRun 8 rfl)
def f_X12_usedOfRun (Z : Nat) (M : Mem) (p0 : Int32) : Option (Int64 × Mem) :=
  cl (f_X12_noBudget Z M p0) (fun v1 M2 => (if v1 = 0 then cl (f_X12_ofRun Z M2 p0) (fun v3 M4 => some (v3, M4)) else some ((0 : Int64), M2)))
set_option maxRecDepth 100000 in
theorem c_X12_usedOfRun {Γ : WC} (hN : HN Γ) {Z : Nat} {M : Mem} {p0 : Int32} {rM : Int64 × Mem}  (hf : f_X12_usedOfRun Z M p0 = some rM) : Ct Γ yX12_usedOfRun cX12_usedOfRun 2 (some .long) (rmL 4 0 0) [.ref (wad Γ 108), .int p0] M (some (.long rM.1)) rM.2 := by
  refine mkN hN.1 (own := RX12) rfl (by decide) (Nat.le_of_ble_eq_true rfl) (fun X C E => ?_)
  change G Γ X M 0 0 [some (.ref (wad Γ 108)), some (.int p0)] [] 0
  unfold f_X12_usedOfRun at hf
  refine x_aload_n C rfl rfl (dkAt dk_X12_usedOfRun 0 rfl) 1 rfl ?_
  refine x_iload_n C rfl rfl (dkAt dk_X12_usedOfRun 1 rfl) 2 rfl ?_
  obtain ⟨v1, M2, h6, hf⟩ := cl_inv hf
  refine x_cVi C (c_X12_noBudget hN h6) mw_X12_noBudget ln_RX12_258 mi_X12_noBudget (hN.rc (ci := 12) sh108 rc12) (ro_of (by decide) (by decide) (by decide) (by decide)) rfl rfl (Nat.le_of_ble_eq_true rfl) (dkAt dk_X12_usedOfRun 2 rfl) 5 rfl 0 0 rfl rfl ?_
  refine x_if_eq C 12 (dkAt dk_X12_usedOfRun 3 rfl) 8 rfl (by decide) hf (fun hf => ?_) (fun hf => ?_)
  · refine x_aload_n C rfl rfl (dkAt dk_X12_usedOfRun 6 rfl) 13 rfl ?_
    refine x_iload_n C rfl rfl (dkAt dk_X12_usedOfRun 7 rfl) 14 rfl ?_
    obtain ⟨v3, M4, h5, hf⟩ := cl_inv hf
    refine x_cVl C (c_X12_ofRun hN h5) mw_X12_ofRun ln_RX12_287 mi_X12_ofRun (hN.rc (ci := 12) sh108 rc12) (ro_of (by decide) (by decide) (by decide) (by decide)) rfl rfl (Nat.le_of_ble_eq_true rfl) (dkAt dk_X12_usedOfRun 8 rfl) 17 rfl 0 0 rfl rfl ?_
    exact x_lret C E hf (by decide) (by decide) (dkAt dk_X12_usedOfRun 9 rfl)
  · refine x_lconst C (v := (0 : Int64)) (by decide) (dkAt dk_X12_usedOfRun 4 rfl) 9 rfl ?_
    refine x_goto C 17 (dkAt dk_X12_usedOfRun 5 rfl) (by decide) ?_
    exact x_lret C E hf (by decide) (by decide) (dkAt dk_X12_usedOfRun 9 rfl)
def f_X12_leftOf (Z : Nat) (M : Mem) (p0 : Int32) : Option (Int64 × Mem) :=
  rdI M 109 54 ((40 : Int32) + p0) (fun v1 => cl (f_X12_unitNow Z M) (fun v2 M3 => cl (f_X12_ofRun Z M3 p0) (fun v4 M5 => some (((v1.toInt64 * v2) - v4), M5))))
set_option maxRecDepth 100000 in
theorem c_X12_leftOf {Γ : WC} (hN : HN Γ) {Z : Nat} {M : Mem} {p0 : Int32} {rM : Int64 × Mem}  (hf : f_X12_leftOf Z M p0 = some rM) : Ct Γ yX12_leftOf cX12_leftOf 2 (some .long) (rmL 4 0 0) [.ref (wad Γ 108), .int p0] M (some (.long rM.1)) rM.2 := by
  refine mkN hN.1 (own := RX12) rfl (by decide) (Nat.le_of_ble_eq_true rfl) (fun X C E => ?_)
  change G Γ X M 0 0 [some (.ref (wad Γ 108)), some (.int p0)] [] 0
  unfold f_X12_leftOf at hf
  refine x_aload_n C rfl rfl (dkAt dk_X12_leftOf 0 rfl) 1 rfl ?_
  refine x_getS C lk_RX12_7 (hN.sh sh108) (hN.sr sr108_2) (dkAt dk_X12_leftOf 1 rfl) 4 rfl ?_
  refine x_bipush C (v := (40 : Int32)) (by decide) (dkAt dk_X12_leftOf 2 rfl) 6 rfl ?_
  refine x_iload_n C rfl rfl (dkAt dk_X12_leftOf 3 rfl) 7 rfl ?_
  refine x_iadd C (dkAt dk_X12_leftOf 4 rfl) 8 rfl ?_
  refine x_iald C (hN.sh sh109) (dkAt dk_X12_leftOf 5 rfl) 9 rfl hf (fun v1 hf => ?_)
  refine x_i2l C (dkAt dk_X12_leftOf 6 rfl) 10 rfl ?_
  refine x_aload_n C rfl rfl (dkAt dk_X12_leftOf 7 rfl) 11 rfl ?_
  obtain ⟨v2, M3, h7, hf⟩ := cl_inv hf
  refine x_cVl C (c_X12_unitNow hN h7) mw_X12_unitNow ln_RX12_283 mi_X12_unitNow (hN.rc (ci := 12) sh108 rc12) (ro_of (by decide) (by decide) (by decide) (by decide)) rfl rfl (Nat.le_of_ble_eq_true rfl) (dkAt dk_X12_leftOf 8 rfl) 14 rfl 0 0 rfl rfl ?_
  refine x_lmul C (dkAt dk_X12_leftOf 9 rfl) 15 rfl ?_
  refine x_aload_n C rfl rfl (dkAt dk_X12_leftOf 10 rfl) 16 rfl ?_
  refine x_iload_n C rfl rfl (dkAt dk_X12_leftOf 11 rfl) 17 rfl ?_
  obtain ⟨v4, M5, h6, hf⟩ := cl_inv hf
  refine x_cVl C (c_X12_ofRun hN h6) mw_X12_ofRun ln_RX12_287 mi_X12_ofRun (hN.rc (ci := 12) sh108 rc12) (ro_of (by decide) (by decide) (by decide) (by decide)) rfl rfl (Nat.le_of_ble_eq_true rfl) (dkAt dk_X12_leftOf 12 rfl) 20 rfl 0 0 rfl rfl ?_
  refine x_lsub C (dkAt dk_X12_leftOf 13 rfl) 21 rfl ?_
  exact x_lret C E hf (by decide) (by decide) (dkAt dk_X12_leftOf 14 rfl)
def f_X12_left (Z : Nat) (M : Mem) (p0 : Int32) : Option (Int64 × Mem) :=
  cl (f_X12_noBudget Z M p0) (fun v1 M2 => (if v1 = 0 then cl (f_X12_leftOf Z M2 p0) (fun v3 M4 => some (v3, M4)) else some ((0 : Int64), M2)))
set_option maxRecDepth 100000 in
theorem c_X12_left {Γ : WC} (hN : HN Γ) {Z : Nat} {M : Mem} {p0 : Int32} {rM : Int64 × Mem}  (hf : f_X12_left Z M p0 = some rM) : Ct Γ yX12_left cX12_left 2 (some .long) (rmL 5 0 0) [.ref (wad Γ 108), .int p0] M (some (.long rM.1)) rM.2 := by
  refine mkN hN.1 (own := RX12) rfl (by decide) (Nat.le_of_ble_eq_true rfl) (fun X C E => ?_)
  change G Γ X M 0 0 [some (.ref (wad Γ 108)), some (.int p0)] [] 0
  unfold f_X12_left at hf
  refine x_aload_n C rfl rfl (dkAt dk_X12_left 0 rfl) 1 rfl ?_
  refine x_iload_n C rfl rfl (dkAt dk_X12_left 1 rfl) 2 rfl ?_
  obtain ⟨v1, M2, h6, hf⟩ := cl_inv hf
  refine x_cVi C (c_X12_noBudget hN h6) mw_X12_noBudget ln_RX12_258 mi_X12_noBudget (hN.rc (ci := 12) sh108 rc12) (ro_of (by decide) (by decide) (by decide) (by decide)) rfl rfl (Nat.le_of_ble_eq_true rfl) (dkAt dk_X12_left 2 rfl) 5 rfl 0 0 rfl rfl ?_
  refine x_if_eq C 12 (dkAt dk_X12_left 3 rfl) 8 rfl (by decide) hf (fun hf => ?_) (fun hf => ?_)
  · refine x_aload_n C rfl rfl (dkAt dk_X12_left 6 rfl) 13 rfl ?_
    refine x_iload_n C rfl rfl (dkAt dk_X12_left 7 rfl) 14 rfl ?_
    obtain ⟨v3, M4, h5, hf⟩ := cl_inv hf
    refine x_cVl C (c_X12_leftOf hN h5) mw_X12_leftOf ln_RX12_290 mi_X12_leftOf (hN.rc (ci := 12) sh108 rc12) (ro_of (by decide) (by decide) (by decide) (by decide)) rfl rfl (Nat.le_of_ble_eq_true rfl) (dkAt dk_X12_left 8 rfl) 17 rfl 0 0 rfl rfl ?_
    exact x_lret C E hf (by decide) (by decide) (dkAt dk_X12_left 9 rfl)
  · refine x_lconst C (v := (0 : Int64)) (by decide) (dkAt dk_X12_left 4 rfl) 9 rfl ?_
    refine x_goto C 17 (dkAt dk_X12_left 5 rfl) (by decide) ?_
    exact x_lret C E hf (by decide) (by decide) (dkAt dk_X12_left 9 rfl)
def f_X12_brokenNow_L4 (Z : Nat) : Nat → Int32 → Int32 → Mem → Option (Int32 × Mem)
  | 0, _, _, _ => none
  | n + 1, x1, x2, M3 => rdI M3 112 344 (1 : Int32) (fun v4 => (if v4 ≤ x2 then some (x1, M3) else cl (f_X12_leftOf Z M3 x2) (fun v5 M6 => (if (0 : Int64) ≤ v5 then f_X12_brokenNow_L4 Z n (x1 ||| (0 : Int32)) (x2 + (1 : Int32)) M6 else f_X12_brokenNow_L4 Z n (x1 ||| ((1 : Int32) <<< (x2 &&& 31))) (x2 + (1 : Int32)) M6))))
def f_X12_brokenNow (Z : Nat) (M : Mem)  : Option (Int32 × Mem) :=
  f_X12_brokenNow_L4 Z Z (0 : Int32) (0 : Int32) M
set_option maxRecDepth 100000 in
theorem l_X12_brokenNow_L4 {Γ : WC} {X : MX} (hN : HN Γ) (C : CX Γ X cX12_brokenNow 3 RX12 (some .int) (rmL 5 0 0)) {rM : Int32 × Mem} (E : EndN Γ X (some (.int rM.1)) rM.2 0 0) {Z : Nat} : ∀ (n : Nat) (x1 : Int32) (x2 : Int32) (M3 : Mem), f_X12_brokenNow_L4 Z n x1 x2 M3 = some rM → G Γ X M3 0 0 [some (.ref (wad Γ 108)), some (.int x1), some (.int x2)] [] 4 := by
  intro n
  induction n with
  | zero =>
    intro x1 x2 M3 hf
    have hf0 : (none : Option _) = some rM := hf
    cases hf0
  | succ n ih =>
    intro x1 x2 M3 hf
    rw [f_X12_brokenNow_L4] at hf
    refine x_iload_n C rfl rfl (dkAt dk_X12_brokenNow 4 rfl) 5 rfl ?_
    refine x_aload_n C rfl rfl (dkAt dk_X12_brokenNow 5 rfl) 6 rfl ?_
    refine x_getS C lk_RX12_20 (hN.sh sh108) (hN.sr sr108_6) (dkAt dk_X12_brokenNow 6 rfl) 9 rfl ?_
    refine x_iconst C (v := (1 : Int32)) (by decide) (dkAt dk_X12_brokenNow 7 rfl) 10 rfl ?_
    refine x_iald C (hN.sh sh112) (dkAt dk_X12_brokenNow 8 rfl) 11 rfl hf (fun v4 hf => ?_)
    refine x_icmp_ge C 40 (dkAt dk_X12_brokenNow 9 rfl) 14 rfl (by decide) hf (fun hf => ?_) (fun hf => ?_)
    · refine x_iload_n C rfl rfl (dkAt dk_X12_brokenNow 26 rfl) 41 rfl ?_
      exact x_iret C E hf (by decide) (by decide) (dkAt dk_X12_brokenNow 27 rfl)
    · refine x_iload_n C rfl rfl (dkAt dk_X12_brokenNow 10 rfl) 15 rfl ?_
      refine x_aload_n C rfl rfl (dkAt dk_X12_brokenNow 11 rfl) 16 rfl ?_
      refine x_iload_n C rfl rfl (dkAt dk_X12_brokenNow 12 rfl) 17 rfl ?_
      obtain ⟨v5, M6, h7, hf⟩ := cl_inv hf
      refine x_cVl C (c_X12_leftOf hN h7) mw_X12_leftOf ln_RX12_290 mi_X12_leftOf (hN.rc (ci := 12) sh108 rc12) (ro_of (by decide) (by decide) (by decide) (by decide)) rfl rfl (Nat.le_of_ble_eq_true rfl) (dkAt dk_X12_brokenNow 13 rfl) 20 rfl 0 0 rfl rfl ?_
      refine x_lconst C (v := (0 : Int64)) (by decide) (dkAt dk_X12_brokenNow 14 rfl) 21 rfl ?_
      refine x_lcmp_ge C 31 (dkAt dk_X12_brokenNow 15 rfl) 25 rfl (dkAt dk_X12_brokenNow 16 rfl) (by decide) hf (fun hf => ?_) (fun hf => ?_)
      · refine x_iconst C (v := (0 : Int32)) (by decide) (dkAt dk_X12_brokenNow 21 rfl) 32 rfl ?_
        refine x_ior C (dkAt dk_X12_brokenNow 22 rfl) 33 rfl ?_
        refine x_istore_n C (L1 := [some (.ref (wad Γ 108)), some (.int (x1 ||| (0 : Int32))), some (.int x2)]) (dkAt dk_X12_brokenNow 23 rfl) 34 rfl rfl (by decide) rfl ?_
        refine x_iinc C (v := (x2 + (1 : Int32))) (L1 := [some (.ref (wad Γ 108)), some (.int (x1 ||| (0 : Int32))), some (.int (x2 + (1 : Int32)))]) (dkAt dk_X12_brokenNow 24 rfl) 37 rfl rfl rfl (by decide) rfl ?_
        refine x_goto C 4 (dkAt dk_X12_brokenNow 25 rfl) (by decide) ?_
        exact G.weak (L := [some (.ref (wad Γ 108)), some (.int (x1 ||| (0 : Int32))), some (.int (x2 + (1 : Int32)))]) ⟨rfl, rfl, rfl, trivial⟩ (ih _ _ _ hf)
      · refine x_iconst C (v := (1 : Int32)) (by decide) (dkAt dk_X12_brokenNow 17 rfl) 26 rfl ?_
        refine x_iload_n C rfl rfl (dkAt dk_X12_brokenNow 18 rfl) 27 rfl ?_
        refine x_ishl C (dkAt dk_X12_brokenNow 19 rfl) 28 rfl ?_
        refine x_goto C 32 (dkAt dk_X12_brokenNow 20 rfl) (by decide) ?_
        refine x_ior C (dkAt dk_X12_brokenNow 22 rfl) 33 rfl ?_
        refine x_istore_n C (L1 := [some (.ref (wad Γ 108)), some (.int (x1 ||| ((1 : Int32) <<< (x2 &&& 31)))), some (.int x2)]) (dkAt dk_X12_brokenNow 23 rfl) 34 rfl rfl (by decide) rfl ?_
        refine x_iinc C (v := (x2 + (1 : Int32))) (L1 := [some (.ref (wad Γ 108)), some (.int (x1 ||| ((1 : Int32) <<< (x2 &&& 31)))), some (.int (x2 + (1 : Int32)))]) (dkAt dk_X12_brokenNow 24 rfl) 37 rfl rfl rfl (by decide) rfl ?_
        refine x_goto C 4 (dkAt dk_X12_brokenNow 25 rfl) (by decide) ?_
        exact G.weak (L := [some (.ref (wad Γ 108)), some (.int (x1 ||| ((1 : Int32) <<< (x2 &&& 31)))), some (.int (x2 + (1 : Int32)))]) ⟨rfl, rfl, rfl, trivial⟩ (ih _ _ _ hf)
set_option maxRecDepth 100000 in
theorem c_X12_brokenNow {Γ : WC} (hN : HN Γ) {Z : Nat} {M : Mem}  {rM : Int32 × Mem}  (hf : f_X12_brokenNow Z M  = some rM) : Ct Γ yX12_brokenNow cX12_brokenNow 3 (some .int) (rmL 5 0 0) [.ref (wad Γ 108)] M (some (.int rM.1)) rM.2 := by
  refine mkN hN.1 (own := RX12) rfl (by decide) (Nat.le_of_ble_eq_true rfl) (fun X C E => ?_)
  change G Γ X M 0 0 [some (.ref (wad Γ 108))] [] 0
  unfold f_X12_brokenNow at hf
  refine x_iconst C (v := (0 : Int32)) (by decide) (dkAt dk_X12_brokenNow 0 rfl) 1 rfl ?_
  refine x_istore_n C (L1 := [some (.ref (wad Γ 108)), some (.int (0 : Int32))]) (dkAt dk_X12_brokenNow 1 rfl) 2 rfl rfl (by decide) rfl ?_
  refine x_iconst C (v := (0 : Int32)) (by decide) (dkAt dk_X12_brokenNow 2 rfl) 3 rfl ?_
  refine x_istore_n C (L1 := [some (.ref (wad Γ 108)), some (.int (0 : Int32)), some (.int (0 : Int32))]) (dkAt dk_X12_brokenNow 3 rfl) 4 rfl rfl (by decide) rfl ?_
  refine G.weak (L := [some (.ref (wad Γ 108)), some (.int (0 : Int32)), some (.int (0 : Int32))]) ⟨rfl, rfl, rfl, trivial⟩ ?_
  refine l_X12_brokenNow_L4 hN C E Z _ _ _ hf
def f_X12_broken (Z : Nat) (M : Mem)  : Option (Int32 × Mem) :=
  cl (f_X12_noChain Z M) (fun v1 M2 => (if v1 = 0 then cl (f_X12_brokenNow Z M2) (fun v3 M4 => some (v3, M4)) else some ((0 : Int32), M2)))
set_option maxRecDepth 100000 in
theorem c_X12_broken {Γ : WC} (hN : HN Γ) {Z : Nat} {M : Mem}  {rM : Int32 × Mem}  (hf : f_X12_broken Z M  = some rM) : Ct Γ yX12_broken cX12_broken 1 (some .int) (rmL 6 0 0) [.ref (wad Γ 108)] M (some (.int rM.1)) rM.2 := by
  refine mkN hN.1 (own := RX12) rfl (by decide) (Nat.le_of_ble_eq_true rfl) (fun X C E => ?_)
  change G Γ X M 0 0 [some (.ref (wad Γ 108))] [] 0
  unfold f_X12_broken at hf
  refine x_aload_n C rfl rfl (dkAt dk_X12_broken 0 rfl) 1 rfl ?_
  obtain ⟨v1, M2, h6, hf⟩ := cl_inv hf
  refine x_cVi C (c_X12_noChain hN h6) mw_X12_noChain ln_RX12_222 mi_X12_noChain (hN.rc (ci := 12) sh108 rc12) (ro_of (by decide) (by decide) (by decide) (by decide)) rfl rfl (Nat.le_of_ble_eq_true rfl) (dkAt dk_X12_broken 1 rfl) 4 rfl 0 0 rfl rfl ?_
  refine x_if_eq C 11 (dkAt dk_X12_broken 2 rfl) 7 rfl (by decide) hf (fun hf => ?_) (fun hf => ?_)
  · refine x_aload_n C rfl rfl (dkAt dk_X12_broken 5 rfl) 12 rfl ?_
    obtain ⟨v3, M4, h5, hf⟩ := cl_inv hf
    refine x_cVi C (c_X12_brokenNow hN h5) mw_X12_brokenNow ln_RX12_293 mi_X12_brokenNow (hN.rc (ci := 12) sh108 rc12) (ro_of (by decide) (by decide) (by decide) (by decide)) rfl rfl (Nat.le_of_ble_eq_true rfl) (dkAt dk_X12_broken 6 rfl) 15 rfl 0 0 rfl rfl ?_
    exact x_iret C E hf (by decide) (by decide) (dkAt dk_X12_broken 7 rfl)
  · refine x_iconst C (v := (0 : Int32)) (by decide) (dkAt dk_X12_broken 3 rfl) 8 rfl ?_
    refine x_goto C 15 (dkAt dk_X12_broken 4 rfl) (by decide) ?_
    exact x_iret C E hf (by decide) (by decide) (dkAt dk_X12_broken 7 rfl)
def f_X12_busiest_L35 (Z : Nat) (p0 : Int32) (x5 : Int32) (x6 : Int32) (k : Int32 → Mem → Option (Int32 × Mem)) : Nat → Int32 → Int32 → Mem → Option (Int32 × Mem)
  | 0, _, _, _ => none
  | n + 1, x9, x10, M11 => rdI M11 112 344 (0 : Int32) (fun v12 => (if v12 ≤ x10 then k x9 M11 else cl (f_X12_together Z M11 x10) (fun v13 M14 => cl (f_X12_together Z M14 x6) (fun v15 M16 => (if v15 < v13 then f_X12_busiest_L35 Z p0 x5 x6 k n (x9 + (1 : Int32)) (x10 + (1 : Int32)) M16 else cl (f_X12_together Z M16 x10) (fun v17 M18 => cl (f_X12_together Z M18 x6) (fun v19 M20 => (if v17 = v19 then (if x6 ≤ x10 then f_X12_busiest_L35 Z p0 x5 x6 k n (x9 + (0 : Int32)) (x10 + (1 : Int32)) M20 else f_X12_busiest_L35 Z p0 x5 x6 k n (x9 + (1 : Int32)) (x10 + (1 : Int32)) M20) else f_X12_busiest_L35 Z p0 x5 x6 k n (x9 + (0 : Int32)) (x10 + (1 : Int32)) M20))))))))
def f_X12_busiest_L19 (Z : Nat) (p0 : Int32) : Nat → Int32 → Int32 → Mem → Option (Int32 × Mem)
  | 0, _, _, _ => none
  | n + 1, x5, x6, M7 => rdI M7 112 344 (0 : Int32) (fun v8 => (if v8 ≤ x6 then some (x5, M7) else f_X12_busiest_L35 Z p0 x5 x6 (fun (y25 : Int32) (M26 : Mem) => jn (fun (t27 : Int32) => f_X12_busiest_L19 Z p0 n t27 (x6 + (1 : Int32)) M26) (fun j28 => (if y25 = p0 then j28 x6 else j28 x5))) Z (0 : Int32) (0 : Int32) M7))
def f_X12_busiest (Z : Nat) (M : Mem) (p0 : Int32) : Option (Int32 × Mem) :=
  cl (f_X12_noState Z M p0) (fun v1 M2 => (if v1 = 0 then cl (f_X12_lays Z M2 (-1 : Int32)) (fun v3 M4 => f_X12_busiest_L19 Z p0 Z (0 : Int32) (0 : Int32) M4) else some ((0 : Int32), M2)))
set_option maxRecDepth 100000 in
theorem l_X12_busiest_L35 {Γ : WC} {X : MX} (hN : HN Γ) (C : CX Γ X cX12_busiest 6 RX12 (some .int) (rmL 3 0 0)) {rM : Int32 × Mem} (E : EndN Γ X (some (.int rM.1)) rM.2 0 0) {Z : Nat} {p0 : Int32} {x5 : Int32} {x6 : Int32} {k : Int32 → Mem → Option (Int32 × Mem)} (hk : ∀ (a4 : Int32) (Mx : Mem), k a4 Mx = some rM → G Γ X Mx 0 0 [some (.ref (wad Γ 108)), some (.int p0), some (.int x5), some (.int x6), some (.int a4)] [] 98) : ∀ (n : Nat) (x9 : Int32) (x10 : Int32) (M11 : Mem), f_X12_busiest_L35 Z p0 x5 x6 k n x9 x10 M11 = some rM → G Γ X M11 0 0 [some (.ref (wad Γ 108)), some (.int p0), some (.int x5), some (.int x6), some (.int x9), some (.int x10)] [] 35 := by
  intro n
  induction n with
  | zero =>
    intro x9 x10 M11 hf
    have hf0 : (none : Option _) = some rM := hf
    cases hf0
  | succ n ih =>
    intro x9 x10 M11 hf
    rw [f_X12_busiest_L35] at hf
    refine x_iload C rfl (dkAt dk_X12_busiest 23 rfl) 37 rfl ?_
    refine x_aload_n C rfl rfl (dkAt dk_X12_busiest 24 rfl) 38 rfl ?_
    refine x_getS C lk_RX12_20 (hN.sh sh108) (hN.sr sr108_6) (dkAt dk_X12_busiest 25 rfl) 41 rfl ?_
    refine x_iconst C (v := (0 : Int32)) (by decide) (dkAt dk_X12_busiest 26 rfl) 42 rfl ?_
    refine x_iald C (hN.sh sh112) (dkAt dk_X12_busiest 27 rfl) 43 rfl hf (fun v12 hf => ?_)
    refine x_icmp_ge C 98 (dkAt dk_X12_busiest 28 rfl) 46 rfl (by decide) hf (fun hf => ?_) (fun hf => ?_)
    · exact G.weak (L := [some (.ref (wad Γ 108)), some (.int p0), some (.int x5), some (.int x6), some (.int x9)]) ⟨rfl, rfl, rfl, rfl, rfl, trivial⟩ (hk _ _ hf)
    · refine x_iload C rfl (dkAt dk_X12_busiest 29 rfl) 48 rfl ?_
      refine x_aload_n C rfl rfl (dkAt dk_X12_busiest 30 rfl) 49 rfl ?_
      refine x_iload C rfl (dkAt dk_X12_busiest 31 rfl) 51 rfl ?_
      obtain ⟨v13, M14, h24, hf⟩ := cl_inv hf
      refine x_cVl C (c_X12_together hN h24) mw_X12_together ln_RX12_277 mi_X12_together (hN.rc (ci := 12) sh108 rc12) (ro_of (by decide) (by decide) (by decide) (by decide)) rfl rfl (Nat.le_of_ble_eq_true rfl) (dkAt dk_X12_busiest 32 rfl) 54 rfl 0 0 rfl rfl ?_
      refine x_aload_n C rfl rfl (dkAt dk_X12_busiest 33 rfl) 55 rfl ?_
      refine x_iload_n C rfl rfl (dkAt dk_X12_busiest 34 rfl) 56 rfl ?_
      obtain ⟨v15, M16, h23, hf⟩ := cl_inv hf
      refine x_cVl C (c_X12_together hN h23) mw_X12_together ln_RX12_277 mi_X12_together (hN.rc (ci := 12) sh108 rc12) (ro_of (by decide) (by decide) (by decide) (by decide)) rfl rfl (Nat.le_of_ble_eq_true rfl) (dkAt dk_X12_busiest 35 rfl) 59 rfl 0 0 rfl rfl ?_
      refine x_lcmp_gt C 84 (dkAt dk_X12_busiest 36 rfl) 63 rfl (dkAt dk_X12_busiest 37 rfl) (by decide) hf (fun hf => ?_) (fun hf => ?_)
      · refine x_iconst C (v := (1 : Int32)) (by decide) (dkAt dk_X12_busiest 49 rfl) 85 rfl ?_
        refine x_goto C 89 (dkAt dk_X12_busiest 50 rfl) (by decide) ?_
        refine x_iadd C (dkAt dk_X12_busiest 52 rfl) 90 rfl ?_
        refine x_istore C (L1 := [some (.ref (wad Γ 108)), some (.int p0), some (.int x5), some (.int x6), some (.int (x9 + (1 : Int32))), some (.int x10)]) (dkAt dk_X12_busiest 53 rfl) 92 rfl (by decide) rfl ?_
        refine x_iinc C (v := (x10 + (1 : Int32))) (L1 := [some (.ref (wad Γ 108)), some (.int p0), some (.int x5), some (.int x6), some (.int (x9 + (1 : Int32))), some (.int (x10 + (1 : Int32)))]) (dkAt dk_X12_busiest 54 rfl) 95 rfl rfl rfl (by decide) rfl ?_
        refine x_goto C 35 (dkAt dk_X12_busiest 55 rfl) (by decide) ?_
        exact G.weak (L := [some (.ref (wad Γ 108)), some (.int p0), some (.int x5), some (.int x6), some (.int (x9 + (1 : Int32))), some (.int (x10 + (1 : Int32)))]) ⟨rfl, rfl, rfl, rfl, rfl, rfl, trivial⟩ (ih _ _ _ hf)
      · refine x_aload_n C rfl rfl (dkAt dk_X12_busiest 38 rfl) 64 rfl ?_
        refine x_iload C rfl (dkAt dk_X12_busiest 39 rfl) 66 rfl ?_
        obtain ⟨v17, M18, h22, hf⟩ := cl_inv hf
        refine x_cVl C (c_X12_together hN h22) mw_X12_together ln_RX12_277 mi_X12_together (hN.rc (ci := 12) sh108 rc12) (ro_of (by decide) (by decide) (by decide) (by decide)) rfl rfl (Nat.le_of_ble_eq_true rfl) (dkAt dk_X12_busiest 40 rfl) 69 rfl 0 0 rfl rfl ?_
        refine x_aload_n C rfl rfl (dkAt dk_X12_busiest 41 rfl) 70 rfl ?_
        refine x_iload_n C rfl rfl (dkAt dk_X12_busiest 42 rfl) 71 rfl ?_
        obtain ⟨v19, M20, h21, hf⟩ := cl_inv hf
        refine x_cVl C (c_X12_together hN h21) mw_X12_together ln_RX12_277 mi_X12_together (hN.rc (ci := 12) sh108 rc12) (ro_of (by decide) (by decide) (by decide) (by decide)) rfl rfl (Nat.le_of_ble_eq_true rfl) (dkAt dk_X12_busiest 43 rfl) 74 rfl 0 0 rfl rfl ?_
        refine x_lcmp_ne C 88 (dkAt dk_X12_busiest 44 rfl) 78 rfl (dkAt dk_X12_busiest 45 rfl) (by decide) hf (fun hf => ?_) (fun hf => ?_)
        · refine x_iconst C (v := (0 : Int32)) (by decide) (dkAt dk_X12_busiest 51 rfl) 89 rfl ?_
          refine x_iadd C (dkAt dk_X12_busiest 52 rfl) 90 rfl ?_
          refine x_istore C (L1 := [some (.ref (wad Γ 108)), some (.int p0), some (.int x5), some (.int x6), some (.int (x9 + (0 : Int32))), some (.int x10)]) (dkAt dk_X12_busiest 53 rfl) 92 rfl (by decide) rfl ?_
          refine x_iinc C (v := (x10 + (1 : Int32))) (L1 := [some (.ref (wad Γ 108)), some (.int p0), some (.int x5), some (.int x6), some (.int (x9 + (0 : Int32))), some (.int (x10 + (1 : Int32)))]) (dkAt dk_X12_busiest 54 rfl) 95 rfl rfl rfl (by decide) rfl ?_
          refine x_goto C 35 (dkAt dk_X12_busiest 55 rfl) (by decide) ?_
          exact G.weak (L := [some (.ref (wad Γ 108)), some (.int p0), some (.int x5), some (.int x6), some (.int (x9 + (0 : Int32))), some (.int (x10 + (1 : Int32)))]) ⟨rfl, rfl, rfl, rfl, rfl, rfl, trivial⟩ (ih _ _ _ hf)
        · refine x_iload C rfl (dkAt dk_X12_busiest 46 rfl) 80 rfl ?_
          refine x_iload_n C rfl rfl (dkAt dk_X12_busiest 47 rfl) 81 rfl ?_
          refine x_icmp_ge C 88 (dkAt dk_X12_busiest 48 rfl) 84 rfl (by decide) hf (fun hf => ?_) (fun hf => ?_)
          · refine x_iconst C (v := (0 : Int32)) (by decide) (dkAt dk_X12_busiest 51 rfl) 89 rfl ?_
            refine x_iadd C (dkAt dk_X12_busiest 52 rfl) 90 rfl ?_
            refine x_istore C (L1 := [some (.ref (wad Γ 108)), some (.int p0), some (.int x5), some (.int x6), some (.int (x9 + (0 : Int32))), some (.int x10)]) (dkAt dk_X12_busiest 53 rfl) 92 rfl (by decide) rfl ?_
            refine x_iinc C (v := (x10 + (1 : Int32))) (L1 := [some (.ref (wad Γ 108)), some (.int p0), some (.int x5), some (.int x6), some (.int (x9 + (0 : Int32))), some (.int (x10 + (1 : Int32)))]) (dkAt dk_X12_busiest 54 rfl) 95 rfl rfl rfl (by decide) rfl ?_
            refine x_goto C 35 (dkAt dk_X12_busiest 55 rfl) (by decide) ?_
            exact G.weak (L := [some (.ref (wad Γ 108)), some (.int p0), some (.int x5), some (.int x6), some (.int (x9 + (0 : Int32))), some (.int (x10 + (1 : Int32)))]) ⟨rfl, rfl, rfl, rfl, rfl, rfl, trivial⟩ (ih _ _ _ hf)
          · refine x_iconst C (v := (1 : Int32)) (by decide) (dkAt dk_X12_busiest 49 rfl) 85 rfl ?_
            refine x_goto C 89 (dkAt dk_X12_busiest 50 rfl) (by decide) ?_
            refine x_iadd C (dkAt dk_X12_busiest 52 rfl) 90 rfl ?_
            refine x_istore C (L1 := [some (.ref (wad Γ 108)), some (.int p0), some (.int x5), some (.int x6), some (.int (x9 + (1 : Int32))), some (.int x10)]) (dkAt dk_X12_busiest 53 rfl) 92 rfl (by decide) rfl ?_
            refine x_iinc C (v := (x10 + (1 : Int32))) (L1 := [some (.ref (wad Γ 108)), some (.int p0), some (.int x5), some (.int x6), some (.int (x9 + (1 : Int32))), some (.int (x10 + (1 : Int32)))]) (dkAt dk_X12_busiest 54 rfl) 95 rfl rfl rfl (by decide) rfl ?_
            refine x_goto C 35 (dkAt dk_X12_busiest 55 rfl) (by decide) ?_
            exact G.weak (L := [some (.ref (wad Γ 108)), some (.int p0), some (.int x5), some (.int x6), some (.int (x9 + (1 : Int32))), some (.int (x10 + (1 : Int32)))]) ⟨rfl, rfl, rfl, rfl, rfl, rfl, trivial⟩ (ih _ _ _ hf)
set_option maxRecDepth 100000 in
theorem l_X12_busiest_L19 {Γ : WC} {X : MX} (hN : HN Γ) (C : CX Γ X cX12_busiest 6 RX12 (some .int) (rmL 3 0 0)) {rM : Int32 × Mem} (E : EndN Γ X (some (.int rM.1)) rM.2 0 0) {Z : Nat} {p0 : Int32} : ∀ (n : Nat) (x5 : Int32) (x6 : Int32) (M7 : Mem), f_X12_busiest_L19 Z p0 n x5 x6 M7 = some rM → G Γ X M7 0 0 [some (.ref (wad Γ 108)), some (.int p0), some (.int x5), some (.int x6)] [] 19 := by
  intro n
  induction n with
  | zero =>
    intro x5 x6 M7 hf
    have hf0 : (none : Option _) = some rM := hf
    cases hf0
  | succ n ih =>
    intro x5 x6 M7 hf
    rw [f_X12_busiest_L19] at hf
    refine x_iload_n C rfl rfl (dkAt dk_X12_busiest 13 rfl) 20 rfl ?_
    refine x_aload_n C rfl rfl (dkAt dk_X12_busiest 14 rfl) 21 rfl ?_
    refine x_getS C lk_RX12_20 (hN.sh sh108) (hN.sr sr108_6) (dkAt dk_X12_busiest 15 rfl) 24 rfl ?_
    refine x_iconst C (v := (0 : Int32)) (by decide) (dkAt dk_X12_busiest 16 rfl) 25 rfl ?_
    refine x_iald C (hN.sh sh112) (dkAt dk_X12_busiest 17 rfl) 26 rfl hf (fun v8 hf => ?_)
    refine x_icmp_ge C 116 (dkAt dk_X12_busiest 18 rfl) 29 rfl (by decide) hf (fun hf => ?_) (fun hf => ?_)
    · refine x_iload_n C rfl rfl (dkAt dk_X12_busiest 65 rfl) 117 rfl ?_
      exact x_iret C E hf (by decide) (by decide) (dkAt dk_X12_busiest 66 rfl)
    · refine x_iconst C (v := (0 : Int32)) (by decide) (dkAt dk_X12_busiest 19 rfl) 30 rfl ?_
      refine x_istore C (L1 := [some (.ref (wad Γ 108)), some (.int p0), some (.int x5), some (.int x6), some (.int (0 : Int32))]) (dkAt dk_X12_busiest 20 rfl) 32 rfl (by decide) rfl ?_
      refine x_iconst C (v := (0 : Int32)) (by decide) (dkAt dk_X12_busiest 21 rfl) 33 rfl ?_
      refine x_istore C (L1 := [some (.ref (wad Γ 108)), some (.int p0), some (.int x5), some (.int x6), some (.int (0 : Int32)), some (.int (0 : Int32))]) (dkAt dk_X12_busiest 22 rfl) 35 rfl (by decide) rfl ?_
      refine G.weak (L := [some (.ref (wad Γ 108)), some (.int p0), some (.int x5), some (.int x6), some (.int (0 : Int32)), some (.int (0 : Int32))]) ⟨rfl, rfl, rfl, rfl, rfl, rfl, trivial⟩ ?_
      refine l_X12_busiest_L35 hN C E ?_ Z _ _ _ hf
      intro y25 M26 hf
      refine x_iload C rfl (dkAt dk_X12_busiest 56 rfl) 100 rfl ?_
      refine x_iload_n C rfl rfl (dkAt dk_X12_busiest 57 rfl) 101 rfl ?_
      refine x_join hf (fun t27 => G Γ X M26 0 0 [some (.ref (wad Γ 108)), some (.int p0), none, some (.int x6)] [.int t27] 109) (fun t27 hf => ?_) (fun j28 hj28 hf => ?_)
      · refine x_istore_n C (L1 := [some (.ref (wad Γ 108)), some (.int p0), some (.int t27), some (.int x6)]) (dkAt dk_X12_busiest 62 rfl) 110 rfl rfl (by decide) rfl ?_
        refine x_iinc C (v := (x6 + (1 : Int32))) (L1 := [some (.ref (wad Γ 108)), some (.int p0), some (.int t27), some (.int (x6 + (1 : Int32)))]) (dkAt dk_X12_busiest 63 rfl) 113 rfl rfl rfl (by decide) rfl ?_
        refine x_goto C 19 (dkAt dk_X12_busiest 64 rfl) (by decide) ?_
        exact G.weak (L := [some (.ref (wad Γ 108)), some (.int p0), some (.int t27), some (.int (x6 + (1 : Int32)))]) ⟨rfl, rfl, rfl, rfl, trivial⟩ (ih _ _ _ hf)
      · refine x_icmp_ne C 108 (dkAt dk_X12_busiest 58 rfl) 104 rfl (by decide) hf (fun hf => ?_) (fun hf => ?_)
        · refine x_iload_n C rfl rfl (dkAt dk_X12_busiest 61 rfl) 109 rfl ?_
          exact G.weak (L := [some (.ref (wad Γ 108)), some (.int p0), none, some (.int x6)]) ⟨rfl, rfl, rfl, trivial⟩ (hj28 _ hf)
        · refine x_iload_n C rfl rfl (dkAt dk_X12_busiest 59 rfl) 105 rfl ?_
          refine x_goto C 109 (dkAt dk_X12_busiest 60 rfl) (by decide) ?_
          exact G.weak (L := [some (.ref (wad Γ 108)), some (.int p0), none, some (.int x6)]) ⟨rfl, rfl, rfl, trivial⟩ (hj28 _ hf)
set_option maxRecDepth 100000 in
theorem c_X12_busiest {Γ : WC} (hN : HN Γ) {Z : Nat} {M : Mem} {p0 : Int32} {rM : Int32 × Mem}  (hf : f_X12_busiest Z M p0 = some rM) : Ct Γ yX12_busiest cX12_busiest 6 (some .int) (rmL 3 0 0) [.ref (wad Γ 108), .int p0] M (some (.int rM.1)) rM.2 := by
  refine mkN hN.1 (own := RX12) rfl (by decide) (Nat.le_of_ble_eq_true rfl) (fun X C E => ?_)
  change G Γ X M 0 0 [some (.ref (wad Γ 108)), some (.int p0)] [] 0
  unfold f_X12_busiest at hf
  refine x_aload_n C rfl rfl (dkAt dk_X12_busiest 0 rfl) 1 rfl ?_
  refine x_iload_n C rfl rfl (dkAt dk_X12_busiest 1 rfl) 2 rfl ?_
  obtain ⟨v1, M2, h30, hf⟩ := cl_inv hf
  refine x_cVi C (c_X12_noState hN h30) mw_X12_noState ln_RX12_236 mi_X12_noState (hN.rc (ci := 12) sh108 rc12) (ro_of (by decide) (by decide) (by decide) (by decide)) rfl rfl (Nat.le_of_ble_eq_true rfl) (dkAt dk_X12_busiest 2 rfl) 5 rfl 0 0 rfl rfl ?_
  refine x_if_eq C 10 (dkAt dk_X12_busiest 3 rfl) 8 rfl (by decide) hf (fun hf => ?_) (fun hf => ?_)
  · refine x_aload_n C rfl rfl (dkAt dk_X12_busiest 6 rfl) 11 rfl ?_
    refine x_iconst C (v := (-1 : Int32)) (by decide) (dkAt dk_X12_busiest 7 rfl) 12 rfl ?_
    obtain ⟨v3, M4, h29, hf⟩ := cl_inv hf
    refine x_cVv C (c_X12_lays hN h29) mw_X12_lays ln_RX12_264 mi_X12_lays (hN.rc (ci := 12) sh108 rc12) (ro_of (by decide) (by decide) (by decide) (by decide)) rfl rfl (Nat.le_of_ble_eq_true rfl) (dkAt dk_X12_busiest 8 rfl) 15 rfl 0 0 rfl rfl ?_
    refine x_iconst C (v := (0 : Int32)) (by decide) (dkAt dk_X12_busiest 9 rfl) 16 rfl ?_
    refine x_istore_n C (L1 := [some (.ref (wad Γ 108)), some (.int p0), some (.int (0 : Int32))]) (dkAt dk_X12_busiest 10 rfl) 17 rfl rfl (by decide) rfl ?_
    refine x_iconst C (v := (0 : Int32)) (by decide) (dkAt dk_X12_busiest 11 rfl) 18 rfl ?_
    refine x_istore_n C (L1 := [some (.ref (wad Γ 108)), some (.int p0), some (.int (0 : Int32)), some (.int (0 : Int32))]) (dkAt dk_X12_busiest 12 rfl) 19 rfl rfl (by decide) rfl ?_
    refine G.weak (L := [some (.ref (wad Γ 108)), some (.int p0), some (.int (0 : Int32)), some (.int (0 : Int32))]) ⟨rfl, rfl, rfl, rfl, trivial⟩ ?_
    refine l_X12_busiest_L19 hN C E Z _ _ _ hf
  · refine x_iconst C (v := (0 : Int32)) (by decide) (dkAt dk_X12_busiest 4 rfl) 9 rfl ?_
    exact x_iret C E hf (by decide) (by decide) (dkAt dk_X12_busiest 5 rfl)
def f_X12_meanGain (Z : Nat) (M : Mem)  : Option (UInt32 × Mem) :=
  cl (f_X12_noChain Z M) (fun v1 M2 => (if v1 = 0 then cl (f_X12_ofRun Z M2 (-1 : Int32)) (fun v3 M4 => cl (f_X12_unitNow Z M4) (fun v5 M6 => okF (FP.fdiv (FP.l2f v3) (FP.l2f v5)) (some ((FP.fdiv (FP.l2f v3) (FP.l2f v5)), M6)))) else some (FP.fconst0, M2)))
set_option maxRecDepth 100000 in
theorem c_X12_meanGain {Γ : WC} (hN : HN Γ) {Z : Nat} {M : Mem}  {rM : UInt32 × Mem}  (hf : f_X12_meanGain Z M  = some rM) : Ct Γ yX12_meanGain cX12_meanGain 1 (some .float) (rmL 4 0 0) [.ref (wad Γ 108)] M (some (.float rM.1)) rM.2 := by
  refine mkN hN.1 (own := RX12) rfl (by decide) (Nat.le_of_ble_eq_true rfl) (fun X C E => ?_)
  change G Γ X M 0 0 [some (.ref (wad Γ 108))] [] 0
  unfold f_X12_meanGain at hf
  refine x_aload_n C rfl rfl (dkAt dk_X12_meanGain 0 rfl) 1 rfl ?_
  obtain ⟨v1, M2, h9, hf⟩ := cl_inv hf
  refine x_cVi C (c_X12_noChain hN h9) mw_X12_noChain ln_RX12_222 mi_X12_noChain (hN.rc (ci := 12) sh108 rc12) (ro_of (by decide) (by decide) (by decide) (by decide)) rfl rfl (Nat.le_of_ble_eq_true rfl) (dkAt dk_X12_meanGain 1 rfl) 4 rfl 0 0 rfl rfl ?_
  refine x_if_eq C 11 (dkAt dk_X12_meanGain 2 rfl) 7 rfl (by decide) hf (fun hf => ?_) (fun hf => ?_)
  · refine x_aload_n C rfl rfl (dkAt dk_X12_meanGain 5 rfl) 12 rfl ?_
    refine x_iconst C (v := (-1 : Int32)) (by decide) (dkAt dk_X12_meanGain 6 rfl) 13 rfl ?_
    obtain ⟨v3, M4, h8, hf⟩ := cl_inv hf
    refine x_cVl C (c_X12_ofRun hN h8) mw_X12_ofRun ln_RX12_287 mi_X12_ofRun (hN.rc (ci := 12) sh108 rc12) (ro_of (by decide) (by decide) (by decide) (by decide)) rfl rfl (Nat.le_of_ble_eq_true rfl) (dkAt dk_X12_meanGain 7 rfl) 16 rfl 0 0 rfl rfl ?_
    refine x_l2f C (dkAt dk_X12_meanGain 8 rfl) 17 rfl ?_
    refine x_aload_n C rfl rfl (dkAt dk_X12_meanGain 9 rfl) 18 rfl ?_
    obtain ⟨v5, M6, h7, hf⟩ := cl_inv hf
    refine x_cVl C (c_X12_unitNow hN h7) mw_X12_unitNow ln_RX12_283 mi_X12_unitNow (hN.rc (ci := 12) sh108 rc12) (ro_of (by decide) (by decide) (by decide) (by decide)) rfl rfl (Nat.le_of_ble_eq_true rfl) (dkAt dk_X12_meanGain 10 rfl) 21 rfl 0 0 rfl rfl ?_
    refine x_l2f C (dkAt dk_X12_meanGain 11 rfl) 22 rfl ?_
    refine x_fdivK C (dkAt dk_X12_meanGain 12 rfl) 23 rfl hf (fun hf => ?_)
    exact x_fret C E hf (by decide) (by decide) (dkAt dk_X12_meanGain 13 rfl)
  · refine x_fconst0 C (dkAt dk_X12_meanGain 3 rfl) 8 rfl ?_
    refine x_goto C 23 (dkAt dk_X12_meanGain 4 rfl) (by decide) ?_
    exact x_fret C E hf (by decide) (by decide) (dkAt dk_X12_meanGain 13 rfl)
def f_X12_firstTime_L17 (Z : Nat) (p0 : Int32) (M4 : Mem) : Nat → Int32 → Option (Int32 × Mem)
  | 0, _ => none
  | n + 1, x5 => rdI M4 109 54 (1 : Int32) (fun v6 => (if v6 < x5 then some ((-1 : Int32), M4) else rdL M4 116 36 (((6 : Int32) * x5) + p0) (fun v7 => (if v7 ≤ (0 : Int64) then f_X12_firstTime_L17 Z p0 M4 n (x5 + (1 : Int32)) else some (x5, M4)))))
def f_X12_firstTime (Z : Nat) (M : Mem) (p0 : Int32) : Option (Int32 × Mem) :=
  cl (f_X12_noState Z M p0) (fun v1 M2 => (if v1 = 0 then cl (f_X12_lays Z M2 (-1 : Int32)) (fun v3 M4 => f_X12_firstTime_L17 Z p0 M4 Z (0 : Int32)) else some ((0 : Int32), M2)))
set_option maxRecDepth 100000 in
theorem l_X12_firstTime_L17 {Γ : WC} {X : MX} (hN : HN Γ) (C : CX Γ X cX12_firstTime 3 RX12 (some .int) (rmL 3 0 0)) {rM : Int32 × Mem} (E : EndN Γ X (some (.int rM.1)) rM.2 0 0) {Z : Nat} {p0 : Int32} {M4 : Mem} : ∀ (n : Nat) (x5 : Int32), f_X12_firstTime_L17 Z p0 M4 n x5 = some rM → G Γ X M4 0 0 [some (.ref (wad Γ 108)), some (.int p0), some (.int x5)] [] 17 := by
  intro n
  induction n with
  | zero =>
    intro x5 hf
    have hf0 : (none : Option _) = some rM := hf
    cases hf0
  | succ n ih =>
    intro x5 hf
    rw [f_X12_firstTime_L17] at hf
    refine x_iload_n C rfl rfl (dkAt dk_X12_firstTime 11 rfl) 18 rfl ?_
    refine x_aload_n C rfl rfl (dkAt dk_X12_firstTime 12 rfl) 19 rfl ?_
    refine x_getS C lk_RX12_7 (hN.sh sh108) (hN.sr sr108_2) (dkAt dk_X12_firstTime 13 rfl) 22 rfl ?_
    refine x_iconst C (v := (1 : Int32)) (by decide) (dkAt dk_X12_firstTime 14 rfl) 23 rfl ?_
    refine x_iald C (hN.sh sh109) (dkAt dk_X12_firstTime 15 rfl) 24 rfl hf (fun v6 hf => ?_)
    refine x_icmp_gt C 51 (dkAt dk_X12_firstTime 16 rfl) 27 rfl (by decide) hf (fun hf => ?_) (fun hf => ?_)
    · refine x_iconst C (v := (-1 : Int32)) (by decide) (dkAt dk_X12_firstTime 32 rfl) 52 rfl ?_
      exact x_iret C E hf (by decide) (by decide) (dkAt dk_X12_firstTime 33 rfl)
    · refine x_aload_n C rfl rfl (dkAt dk_X12_firstTime 17 rfl) 28 rfl ?_
      refine x_getS C lk_RX12_36 (hN.sh sh108) (hN.sr sr108_21) (dkAt dk_X12_firstTime 18 rfl) 31 rfl ?_
      refine x_bipush C (v := (6 : Int32)) (by decide) (dkAt dk_X12_firstTime 19 rfl) 33 rfl ?_
      refine x_iload_n C rfl rfl (dkAt dk_X12_firstTime 20 rfl) 34 rfl ?_
      refine x_imul C (dkAt dk_X12_firstTime 21 rfl) 35 rfl ?_
      refine x_iload_n C rfl rfl (dkAt dk_X12_firstTime 22 rfl) 36 rfl ?_
      refine x_iadd C (dkAt dk_X12_firstTime 23 rfl) 37 rfl ?_
      refine x_lald C (hN.sh sh116) (dkAt dk_X12_firstTime 24 rfl) 38 rfl hf (fun v7 hf => ?_)
      refine x_lconst C (v := (0 : Int64)) (by decide) (dkAt dk_X12_firstTime 25 rfl) 39 rfl ?_
      refine x_lcmp_le C 45 (dkAt dk_X12_firstTime 26 rfl) 43 rfl (dkAt dk_X12_firstTime 27 rfl) (by decide) hf (fun hf => ?_) (fun hf => ?_)
      · refine x_iinc C (v := (x5 + (1 : Int32))) (L1 := [some (.ref (wad Γ 108)), some (.int p0), some (.int (x5 + (1 : Int32)))]) (dkAt dk_X12_firstTime 30 rfl) 48 rfl rfl rfl (by decide) rfl ?_
        refine x_goto C 17 (dkAt dk_X12_firstTime 31 rfl) (by decide) ?_
        exact G.weak (L := [some (.ref (wad Γ 108)), some (.int p0), some (.int (x5 + (1 : Int32)))]) ⟨rfl, rfl, rfl, trivial⟩ (ih _ hf)
      · refine x_iload_n C rfl rfl (dkAt dk_X12_firstTime 28 rfl) 44 rfl ?_
        exact x_iret C E hf (by decide) (by decide) (dkAt dk_X12_firstTime 29 rfl)
set_option maxRecDepth 100000 in
theorem c_X12_firstTime {Γ : WC} (hN : HN Γ) {Z : Nat} {M : Mem} {p0 : Int32} {rM : Int32 × Mem}  (hf : f_X12_firstTime Z M p0 = some rM) : Ct Γ yX12_firstTime cX12_firstTime 3 (some .int) (rmL 3 0 0) [.ref (wad Γ 108), .int p0] M (some (.int rM.1)) rM.2 := by
  refine mkN hN.1 (own := RX12) rfl (by decide) (Nat.le_of_ble_eq_true rfl) (fun X C E => ?_)
  change G Γ X M 0 0 [some (.ref (wad Γ 108)), some (.int p0)] [] 0
  unfold f_X12_firstTime at hf
  refine x_aload_n C rfl rfl (dkAt dk_X12_firstTime 0 rfl) 1 rfl ?_
  refine x_iload_n C rfl rfl (dkAt dk_X12_firstTime 1 rfl) 2 rfl ?_
  obtain ⟨v1, M2, h9, hf⟩ := cl_inv hf
  refine x_cVi C (c_X12_noState hN h9) mw_X12_noState ln_RX12_236 mi_X12_noState (hN.rc (ci := 12) sh108 rc12) (ro_of (by decide) (by decide) (by decide) (by decide)) rfl rfl (Nat.le_of_ble_eq_true rfl) (dkAt dk_X12_firstTime 2 rfl) 5 rfl 0 0 rfl rfl ?_
  refine x_if_eq C 10 (dkAt dk_X12_firstTime 3 rfl) 8 rfl (by decide) hf (fun hf => ?_) (fun hf => ?_)
  · refine x_aload_n C rfl rfl (dkAt dk_X12_firstTime 6 rfl) 11 rfl ?_
    refine x_iconst C (v := (-1 : Int32)) (by decide) (dkAt dk_X12_firstTime 7 rfl) 12 rfl ?_
    obtain ⟨v3, M4, h8, hf⟩ := cl_inv hf
    refine x_cVv C (c_X12_lays hN h8) mw_X12_lays ln_RX12_264 mi_X12_lays (hN.rc (ci := 12) sh108 rc12) (ro_of (by decide) (by decide) (by decide) (by decide)) rfl rfl (Nat.le_of_ble_eq_true rfl) (dkAt dk_X12_firstTime 8 rfl) 15 rfl 0 0 rfl rfl ?_
    refine x_iconst C (v := (0 : Int32)) (by decide) (dkAt dk_X12_firstTime 9 rfl) 16 rfl ?_
    refine x_istore_n C (L1 := [some (.ref (wad Γ 108)), some (.int p0), some (.int (0 : Int32))]) (dkAt dk_X12_firstTime 10 rfl) 17 rfl rfl (by decide) rfl ?_
    refine G.weak (L := [some (.ref (wad Γ 108)), some (.int p0), some (.int (0 : Int32))]) ⟨rfl, rfl, rfl, trivial⟩ ?_
    refine l_X12_firstTime_L17 hN C E Z _ hf
  · refine x_iconst C (v := (0 : Int32)) (by decide) (dkAt dk_X12_firstTime 4 rfl) 9 rfl ?_
    exact x_iret C E hf (by decide) (by decide) (dkAt dk_X12_firstTime 5 rfl)
def f_X12_goesBy_L39 (Z : Nat) (p0 : Int32) (p1 : Int32) (p2 : Int32) (x1 : Int32) (v3 : Int64) (v4 : Int32) (k : Mem → Option (Unit × Mem)) : Nat → Int32 → Mem → Option (Unit × Mem)
  | 0, _, _ => none
  | n + 1, x6, M7 => rdI M7 112 344 (0 : Int32) (fun v8 => (if v8 ≤ x6 then k M7 else (if (v3 * v4.toInt64) ≤ (0 : Int64) then k M7 else rdL M7 118 2976 ((((496 : Int32) * x6) + x1) + p2) (fun v9 => cl (f_X12_percentBy Z M7 p0 p1 x6) (fun v10 M11 => wrL M11 118 2976 ((((496 : Int32) * x6) + x1) + p2) (v9 + ((v3 * v4.toInt64) * v10.toInt64)) (fun M12 => f_X12_goesBy_L39 Z p0 p1 p2 x1 v3 v4 k n (x6 + (1 : Int32)) M12))))))
def f_X12_goesBy_L3 (Z : Nat) (p0 : Int32) (p1 : Int32) (p2 : Int32) : Nat → Int32 → Mem → Option (Unit × Mem)
  | 0, _, _ => none
  | n + 1, x1, M2 => (if (496 : Int32) ≤ (x1 + p2) then some ((), M2) else rdL M2 117 2976 (((496 : Int32) * p0) + x1) (fun v3 => cl (f_X12_weightOf Z M2 p0 p1) (fun v4 M5 => f_X12_goesBy_L39 Z p0 p1 p2 x1 v3 v4 (fun (M14 : Mem) => f_X12_goesBy_L3 Z p0 p1 p2 n (x1 + (1 : Int32)) M14) Z (0 : Int32) M5)))
def f_X12_goesBy (Z : Nat) (M : Mem) (p0 : Int32) (p1 : Int32) (p2 : Int32) : Option (Unit × Mem) :=
  f_X12_goesBy_L3 Z p0 p1 p2 Z (0 : Int32) M
set_option maxRecDepth 100000 in
theorem l_X12_goesBy_L39 {Γ : WC} {X : MX} (hN : HN Γ) (C : CX Γ X cX12_goesBy 8 RX12 none (rmL 1 0 0)) {rM : Unit × Mem} (E : EndN Γ X none rM.2 0 0) {Z : Nat} {p0 : Int32} {p1 : Int32} {p2 : Int32} {x1 : Int32} {v3 : Int64} {v4 : Int32} {k : Mem → Option (Unit × Mem)} (hk : ∀  (Mx : Mem), k Mx = some rM → G Γ X Mx 0 0 [some (.ref (wad Γ 108)), some (.int p0), some (.int p1), some (.int p2), some (.int x1)] [] 94) : ∀ (n : Nat) (x6 : Int32) (M7 : Mem), f_X12_goesBy_L39 Z p0 p1 p2 x1 v3 v4 k n x6 M7 = some rM → G Γ X M7 0 0 [some (.ref (wad Γ 108)), some (.int p0), some (.int p1), some (.int p2), some (.int x1), some (.long (v3 * v4.toInt64)), none, some (.int x6)] [] 39 := by
  intro n
  induction n with
  | zero =>
    intro x6 M7 hf
    have hf0 : (none : Option _) = some rM := hf
    cases hf0
  | succ n ih =>
    intro x6 M7 hf
    rw [f_X12_goesBy_L39] at hf
    refine x_iload C rfl (dkAt dk_X12_goesBy 24 rfl) 41 rfl ?_
    refine x_aload_n C rfl rfl (dkAt dk_X12_goesBy 25 rfl) 42 rfl ?_
    refine x_getS C lk_RX12_20 (hN.sh sh108) (hN.sr sr108_6) (dkAt dk_X12_goesBy 26 rfl) 45 rfl ?_
    refine x_iconst C (v := (0 : Int32)) (by decide) (dkAt dk_X12_goesBy 27 rfl) 46 rfl ?_
    refine x_iald C (hN.sh sh112) (dkAt dk_X12_goesBy 28 rfl) 47 rfl hf (fun v8 hf => ?_)
    refine x_icmp_ge C 94 (dkAt dk_X12_goesBy 29 rfl) 50 rfl (by decide) hf (fun hf => ?_) (fun hf => ?_)
    · exact G.weak (L := [some (.ref (wad Γ 108)), some (.int p0), some (.int p1), some (.int p2), some (.int x1)]) ⟨rfl, rfl, rfl, rfl, rfl, trivial⟩ (hk _ hf)
    · refine x_lload C rfl (dkAt dk_X12_goesBy 30 rfl) 52 rfl ?_
      refine x_lconst C (v := (0 : Int64)) (by decide) (dkAt dk_X12_goesBy 31 rfl) 53 rfl ?_
      refine x_lcmp_le C 94 (dkAt dk_X12_goesBy 32 rfl) 57 rfl (dkAt dk_X12_goesBy 33 rfl) (by decide) hf (fun hf => ?_) (fun hf => ?_)
      · exact G.weak (L := [some (.ref (wad Γ 108)), some (.int p0), some (.int p1), some (.int p2), some (.int x1)]) ⟨rfl, rfl, rfl, rfl, rfl, trivial⟩ (hk _ hf)
      · refine x_aload_n C rfl rfl (dkAt dk_X12_goesBy 34 rfl) 58 rfl ?_
        refine x_getS C lk_RX12_43 (hN.sh sh108) (hN.sr sr108_23) (dkAt dk_X12_goesBy 35 rfl) 61 rfl ?_
        refine x_sipush C (v := (496 : Int32)) (by decide) (dkAt dk_X12_goesBy 36 rfl) 64 rfl ?_
        refine x_iload C rfl (dkAt dk_X12_goesBy 37 rfl) 66 rfl ?_
        refine x_imul C (dkAt dk_X12_goesBy 38 rfl) 67 rfl ?_
        refine x_iload C rfl (dkAt dk_X12_goesBy 39 rfl) 69 rfl ?_
        refine x_iadd C (dkAt dk_X12_goesBy 40 rfl) 70 rfl ?_
        refine x_iload_n C rfl rfl (dkAt dk_X12_goesBy 41 rfl) 71 rfl ?_
        refine x_iadd C (dkAt dk_X12_goesBy 42 rfl) 72 rfl ?_
        refine x_dup2 C rfl rfl (dkAt dk_X12_goesBy 43 rfl) 73 rfl ?_
        refine x_lald C (hN.sh sh118) (dkAt dk_X12_goesBy 44 rfl) 74 rfl hf (fun v9 hf => ?_)
        refine x_lload C rfl (dkAt dk_X12_goesBy 45 rfl) 76 rfl ?_
        refine x_aload_n C rfl rfl (dkAt dk_X12_goesBy 46 rfl) 77 rfl ?_
        refine x_iload_n C rfl rfl (dkAt dk_X12_goesBy 47 rfl) 78 rfl ?_
        refine x_iload_n C rfl rfl (dkAt dk_X12_goesBy 48 rfl) 79 rfl ?_
        refine x_iload C rfl (dkAt dk_X12_goesBy 49 rfl) 81 rfl ?_
        obtain ⟨v10, M11, h13, hf⟩ := cl_inv hf
        refine x_cVi C (c_X12_percentBy hN h13) mw_X12_percentBy ln_RX12_249 mi_X12_percentBy (hN.rc (ci := 12) sh108 rc12) (ro_of (by decide) (by decide) (by decide) (by decide)) rfl rfl (Nat.le_of_ble_eq_true rfl) (dkAt dk_X12_goesBy 50 rfl) 84 rfl 0 0 rfl rfl ?_
        refine x_i2l C (dkAt dk_X12_goesBy 51 rfl) 85 rfl ?_
        refine x_lmul C (dkAt dk_X12_goesBy 52 rfl) 86 rfl ?_
        refine x_ladd C (dkAt dk_X12_goesBy 53 rfl) 87 rfl ?_
        refine x_last C (hN.sh sh118) (dkAt dk_X12_goesBy 54 rfl) 88 rfl hf (fun M12 hf => ?_)
        refine x_iinc C (v := (x6 + (1 : Int32))) (L1 := [some (.ref (wad Γ 108)), some (.int p0), some (.int p1), some (.int p2), some (.int x1), some (.long (v3 * v4.toInt64)), none, some (.int (x6 + (1 : Int32)))]) (dkAt dk_X12_goesBy 55 rfl) 91 rfl rfl rfl (by decide) rfl ?_
        refine x_goto C 39 (dkAt dk_X12_goesBy 56 rfl) (by decide) ?_
        exact G.weak (L := [some (.ref (wad Γ 108)), some (.int p0), some (.int p1), some (.int p2), some (.int x1), some (.long (v3 * v4.toInt64)), none, some (.int (x6 + (1 : Int32)))]) ⟨rfl, rfl, rfl, rfl, rfl, rfl, rfl, trivial⟩ (ih _ _ hf)
set_option maxRecDepth 100000 in
theorem l_X12_goesBy_L3 {Γ : WC} {X : MX} (hN : HN Γ) (C : CX Γ X cX12_goesBy 8 RX12 none (rmL 1 0 0)) {rM : Unit × Mem} (E : EndN Γ X none rM.2 0 0) {Z : Nat} {p0 : Int32} {p1 : Int32} {p2 : Int32} : ∀ (n : Nat) (x1 : Int32) (M2 : Mem), f_X12_goesBy_L3 Z p0 p1 p2 n x1 M2 = some rM → G Γ X M2 0 0 [some (.ref (wad Γ 108)), some (.int p0), some (.int p1), some (.int p2), some (.int x1)] [] 3 := by
  intro n
  induction n with
  | zero =>
    intro x1 M2 hf
    have hf0 : (none : Option _) = some rM := hf
    cases hf0
  | succ n ih =>
    intro x1 M2 hf
    rw [f_X12_goesBy_L3] at hf
    refine x_iload C rfl (dkAt dk_X12_goesBy 2 rfl) 5 rfl ?_
    refine x_iload_n C rfl rfl (dkAt dk_X12_goesBy 3 rfl) 6 rfl ?_
    refine x_iadd C (dkAt dk_X12_goesBy 4 rfl) 7 rfl ?_
    refine x_sipush C (v := (496 : Int32)) (by decide) (dkAt dk_X12_goesBy 5 rfl) 10 rfl ?_
    refine x_icmp_ge C 100 (dkAt dk_X12_goesBy 6 rfl) 13 rfl (by decide) hf (fun hf => ?_) (fun hf => ?_)
    · exact x_vret C E hf (by decide) (by decide) (dkAt dk_X12_goesBy 59 rfl)
    · refine x_aload_n C rfl rfl (dkAt dk_X12_goesBy 7 rfl) 14 rfl ?_
      refine x_getS C lk_RX12_40 (hN.sh sh108) (hN.sr sr108_22) (dkAt dk_X12_goesBy 8 rfl) 17 rfl ?_
      refine x_sipush C (v := (496 : Int32)) (by decide) (dkAt dk_X12_goesBy 9 rfl) 20 rfl ?_
      refine x_iload_n C rfl rfl (dkAt dk_X12_goesBy 10 rfl) 21 rfl ?_
      refine x_imul C (dkAt dk_X12_goesBy 11 rfl) 22 rfl ?_
      refine x_iload C rfl (dkAt dk_X12_goesBy 12 rfl) 24 rfl ?_
      refine x_iadd C (dkAt dk_X12_goesBy 13 rfl) 25 rfl ?_
      refine x_lald C (hN.sh sh117) (dkAt dk_X12_goesBy 14 rfl) 26 rfl hf (fun v3 hf => ?_)
      refine x_aload_n C rfl rfl (dkAt dk_X12_goesBy 15 rfl) 27 rfl ?_
      refine x_iload_n C rfl rfl (dkAt dk_X12_goesBy 16 rfl) 28 rfl ?_
      refine x_iload_n C rfl rfl (dkAt dk_X12_goesBy 17 rfl) 29 rfl ?_
      obtain ⟨v4, M5, h15, hf⟩ := cl_inv hf
      refine x_cVi C (c_X12_weightOf hN h15) mw_X12_weightOf ln_RX12_252 mi_X12_weightOf (hN.rc (ci := 12) sh108 rc12) (ro_of (by decide) (by decide) (by decide) (by decide)) rfl rfl (Nat.le_of_ble_eq_true rfl) (dkAt dk_X12_goesBy 18 rfl) 32 rfl 0 0 rfl rfl ?_
      refine x_i2l C (dkAt dk_X12_goesBy 19 rfl) 33 rfl ?_
      refine x_lmul C (dkAt dk_X12_goesBy 20 rfl) 34 rfl ?_
      refine x_lstore C (L1 := [some (.ref (wad Γ 108)), some (.int p0), some (.int p1), some (.int p2), some (.int x1), some (.long (v3 * v4.toInt64))]) (dkAt dk_X12_goesBy 21 rfl) 36 rfl (by decide) rfl ?_
      refine x_iconst C (v := (0 : Int32)) (by decide) (dkAt dk_X12_goesBy 22 rfl) 37 rfl ?_
      refine x_istore C (L1 := [some (.ref (wad Γ 108)), some (.int p0), some (.int p1), some (.int p2), some (.int x1), some (.long (v3 * v4.toInt64)), none, some (.int (0 : Int32))]) (dkAt dk_X12_goesBy 23 rfl) 39 rfl (by decide) rfl ?_
      refine G.weak (L := [some (.ref (wad Γ 108)), some (.int p0), some (.int p1), some (.int p2), some (.int x1), some (.long (v3 * v4.toInt64)), none, some (.int (0 : Int32))]) ⟨rfl, rfl, rfl, rfl, rfl, rfl, rfl, trivial⟩ ?_
      refine l_X12_goesBy_L39 hN C E ?_ Z _ _ hf
      intro M14 hf
      refine x_iinc C (v := (x1 + (1 : Int32))) (L1 := [some (.ref (wad Γ 108)), some (.int p0), some (.int p1), some (.int p2), some (.int (x1 + (1 : Int32)))]) (dkAt dk_X12_goesBy 57 rfl) 97 rfl rfl rfl (by decide) rfl ?_
      refine x_goto C 3 (dkAt dk_X12_goesBy 58 rfl) (by decide) ?_
      exact G.weak (L := [some (.ref (wad Γ 108)), some (.int p0), some (.int p1), some (.int p2), some (.int (x1 + (1 : Int32)))]) ⟨rfl, rfl, rfl, rfl, rfl, trivial⟩ (ih _ _ hf)
set_option maxRecDepth 100000 in
theorem c_X12_goesBy {Γ : WC} (hN : HN Γ) {Z : Nat} {M : Mem} {p0 : Int32} {p1 : Int32} {p2 : Int32} {rM : Unit × Mem}  (hf : f_X12_goesBy Z M p0 p1 p2 = some rM) : Ct Γ yX12_goesBy cX12_goesBy 8 none (rmL 1 0 0) [.ref (wad Γ 108), .int p0, .int p1, .int p2] M none rM.2 := by
  refine mkN hN.1 (own := RX12) rfl (by decide) (Nat.le_of_ble_eq_true rfl) (fun X C E => ?_)
  change G Γ X M 0 0 [some (.ref (wad Γ 108)), some (.int p0), some (.int p1), some (.int p2)] [] 0
  unfold f_X12_goesBy at hf
  refine x_iconst C (v := (0 : Int32)) (by decide) (dkAt dk_X12_goesBy 0 rfl) 1 rfl ?_
  refine x_istore C (L1 := [some (.ref (wad Γ 108)), some (.int p0), some (.int p1), some (.int p2), some (.int (0 : Int32))]) (dkAt dk_X12_goesBy 1 rfl) 3 rfl (by decide) rfl ?_
  refine G.weak (L := [some (.ref (wad Γ 108)), some (.int p0), some (.int p1), some (.int p2), some (.int (0 : Int32))]) ⟨rfl, rfl, rfl, rfl, rfl, trivial⟩ ?_
  refine l_X12_goesBy_L3 hN C E Z _ _ hf
def f_X12_stepsMass_L2 (Z : Nat) (p0 : Int32) (k : Mem → Option (Unit × Mem)) : Nat → Int32 → Mem → Option (Unit × Mem)
  | 0, _, _ => none
  | n + 1, x1, M2 => (if (2976 : Int32) ≤ x1 then k M2 else wrL M2 118 2976 x1 (0 : Int64) (fun M3 => f_X12_stepsMass_L2 Z p0 k n (x1 + (1 : Int32)) M3))
def f_X12_stepsMass_L36 (Z : Nat) (p0 : Int32) (x5 : Int32) (k : Mem → Option (Unit × Mem)) : Nat → Int32 → Mem → Option (Unit × Mem)
  | 0, _, _ => none
  | n + 1, x8, M9 => rdI M9 112 344 ((8 : Int32) + x5) (fun v10 => (if v10 ≤ x8 then k M9 else cl (f_X12_usesBy Z M9 x5 x8 p0) (fun v11 M12 => cl (f_X12_goesBy Z M12 x5 x8 v11) (fun v13 M14 => f_X12_stepsMass_L36 Z p0 x5 k n (x8 + (1 : Int32)) M14))))
def f_X12_stepsMass_L24 (Z : Nat) (p0 : Int32) (k : Mem → Option (Unit × Mem)) : Nat → Int32 → Mem → Option (Unit × Mem)
  | 0, _, _ => none
  | n + 1, x5, M6 => rdI M6 112 344 (0 : Int32) (fun v7 => (if v7 ≤ x5 then k M6 else f_X12_stepsMass_L36 Z p0 x5 (fun (M17 : Mem) => f_X12_stepsMass_L24 Z p0 k n (x5 + (1 : Int32)) M17) Z (0 : Int32) M6))
def f_X12_stepsMass_L76 (Z : Nat) : Nat → Int32 → Mem → Option (Unit × Mem)
  | 0, _, _ => none
  | n + 1, x19, M20 => (if (2976 : Int32) ≤ x19 then some ((), M20) else rdL M20 118 2976 x19 (fun v21 => wrL M20 117 2976 x19 v21 (fun M22 => f_X12_stepsMass_L76 Z n (x19 + (1 : Int32)) M22)))
def f_X12_stepsMass (Z : Nat) (M : Mem) (p0 : Int32) : Option (Unit × Mem) :=
  f_X12_stepsMass_L2 Z p0 (fun (M4 : Mem) => f_X12_stepsMass_L24 Z p0 (fun (M18 : Mem) => f_X12_stepsMass_L76 Z Z (0 : Int32) M18) Z (0 : Int32) M4) Z (0 : Int32) M
set_option maxRecDepth 100000 in
theorem l_X12_stepsMass_L2 {Γ : WC} {X : MX} (hN : HN Γ) (C : CX Γ X cX12_stepsMass 4 RX12 none (rmL 2 0 0)) {rM : Unit × Mem} (E : EndN Γ X none rM.2 0 0) {Z : Nat} {p0 : Int32} {k : Mem → Option (Unit × Mem)} (hk : ∀  (Mx : Mem), k Mx = some rM → G Γ X Mx 0 0 [some (.ref (wad Γ 108)), some (.int p0)] [] 22) : ∀ (n : Nat) (x1 : Int32) (M2 : Mem), f_X12_stepsMass_L2 Z p0 k n x1 M2 = some rM → G Γ X M2 0 0 [some (.ref (wad Γ 108)), some (.int p0), some (.int x1)] [] 2 := by
  intro n
  induction n with
  | zero =>
    intro x1 M2 hf
    have hf0 : (none : Option _) = some rM := hf
    cases hf0
  | succ n ih =>
    intro x1 M2 hf
    rw [f_X12_stepsMass_L2] at hf
    refine x_iload_n C rfl rfl (dkAt dk_X12_stepsMass 2 rfl) 3 rfl ?_
    refine x_sipush C (v := (2976 : Int32)) (by decide) (dkAt dk_X12_stepsMass 3 rfl) 6 rfl ?_
    refine x_icmp_ge C 22 (dkAt dk_X12_stepsMass 4 rfl) 9 rfl (by decide) hf (fun hf => ?_) (fun hf => ?_)
    · exact G.weak (L := [some (.ref (wad Γ 108)), some (.int p0)]) ⟨rfl, rfl, trivial⟩ (hk _ hf)
    · refine x_aload_n C rfl rfl (dkAt dk_X12_stepsMass 5 rfl) 10 rfl ?_
      refine x_getS C lk_RX12_43 (hN.sh sh108) (hN.sr sr108_23) (dkAt dk_X12_stepsMass 6 rfl) 13 rfl ?_
      refine x_iload_n C rfl rfl (dkAt dk_X12_stepsMass 7 rfl) 14 rfl ?_
      refine x_lconst C (v := (0 : Int64)) (by decide) (dkAt dk_X12_stepsMass 8 rfl) 15 rfl ?_
      refine x_last C (hN.sh sh118) (dkAt dk_X12_stepsMass 9 rfl) 16 rfl hf (fun M3 hf => ?_)
      refine x_iinc C (v := (x1 + (1 : Int32))) (L1 := [some (.ref (wad Γ 108)), some (.int p0), some (.int (x1 + (1 : Int32)))]) (dkAt dk_X12_stepsMass 10 rfl) 19 rfl rfl rfl (by decide) rfl ?_
      refine x_goto C 2 (dkAt dk_X12_stepsMass 11 rfl) (by decide) ?_
      exact G.weak (L := [some (.ref (wad Γ 108)), some (.int p0), some (.int (x1 + (1 : Int32)))]) ⟨rfl, rfl, rfl, trivial⟩ (ih _ _ hf)
set_option maxRecDepth 100000 in
theorem l_X12_stepsMass_L36 {Γ : WC} {X : MX} (hN : HN Γ) (C : CX Γ X cX12_stepsMass 4 RX12 none (rmL 2 0 0)) {rM : Unit × Mem} (E : EndN Γ X none rM.2 0 0) {Z : Nat} {p0 : Int32} {x5 : Int32} {k : Mem → Option (Unit × Mem)} (hk : ∀  (Mx : Mem), k Mx = some rM → G Γ X Mx 0 0 [some (.ref (wad Γ 108)), some (.int p0), some (.int x5)] [] 68) : ∀ (n : Nat) (x8 : Int32) (M9 : Mem), f_X12_stepsMass_L36 Z p0 x5 k n x8 M9 = some rM → G Γ X M9 0 0 [some (.ref (wad Γ 108)), some (.int p0), some (.int x5), some (.int x8)] [] 36 := by
  intro n
  induction n with
  | zero =>
    intro x8 M9 hf
    have hf0 : (none : Option _) = some rM := hf
    cases hf0
  | succ n ih =>
    intro x8 M9 hf
    rw [f_X12_stepsMass_L36] at hf
    refine x_iload_n C rfl rfl (dkAt dk_X12_stepsMass 22 rfl) 37 rfl ?_
    refine x_aload_n C rfl rfl (dkAt dk_X12_stepsMass 23 rfl) 38 rfl ?_
    refine x_getS C lk_RX12_20 (hN.sh sh108) (hN.sr sr108_6) (dkAt dk_X12_stepsMass 24 rfl) 41 rfl ?_
    refine x_bipush C (v := (8 : Int32)) (by decide) (dkAt dk_X12_stepsMass 25 rfl) 43 rfl ?_
    refine x_iload_n C rfl rfl (dkAt dk_X12_stepsMass 26 rfl) 44 rfl ?_
    refine x_iadd C (dkAt dk_X12_stepsMass 27 rfl) 45 rfl ?_
    refine x_iald C (hN.sh sh112) (dkAt dk_X12_stepsMass 28 rfl) 46 rfl hf (fun v10 hf => ?_)
    refine x_icmp_ge C 68 (dkAt dk_X12_stepsMass 29 rfl) 49 rfl (by decide) hf (fun hf => ?_) (fun hf => ?_)
    · exact G.weak (L := [some (.ref (wad Γ 108)), some (.int p0), some (.int x5)]) ⟨rfl, rfl, rfl, trivial⟩ (hk _ hf)
    · refine x_aload_n C rfl rfl (dkAt dk_X12_stepsMass 30 rfl) 50 rfl ?_
      refine x_iload_n C rfl rfl (dkAt dk_X12_stepsMass 31 rfl) 51 rfl ?_
      refine x_iload_n C rfl rfl (dkAt dk_X12_stepsMass 32 rfl) 52 rfl ?_
      refine x_aload_n C rfl rfl (dkAt dk_X12_stepsMass 33 rfl) 53 rfl ?_
      refine x_iload_n C rfl rfl (dkAt dk_X12_stepsMass 34 rfl) 54 rfl ?_
      refine x_iload_n C rfl rfl (dkAt dk_X12_stepsMass 35 rfl) 55 rfl ?_
      refine x_iload_n C rfl rfl (dkAt dk_X12_stepsMass 36 rfl) 56 rfl ?_
      obtain ⟨v11, M12, h16, hf⟩ := cl_inv hf
      refine x_cVi C (c_X12_usesBy hN h16) mw_X12_usesBy ln_RX12_245 mi_X12_usesBy (hN.rc (ci := 12) sh108 rc12) (ro_of (by decide) (by decide) (by decide) (by decide)) rfl rfl (Nat.le_of_ble_eq_true rfl) (dkAt dk_X12_stepsMass 37 rfl) 59 rfl 0 0 rfl rfl ?_
      obtain ⟨v13, M14, h15, hf⟩ := cl_inv hf
      refine x_cVv C (c_X12_goesBy hN h15) mw_X12_goesBy ln_RX12_299 mi_X12_goesBy (hN.rc (ci := 12) sh108 rc12) (ro_of (by decide) (by decide) (by decide) (by decide)) rfl rfl (Nat.le_of_ble_eq_true rfl) (dkAt dk_X12_stepsMass 38 rfl) 62 rfl 0 0 rfl rfl ?_
      refine x_iinc C (v := (x8 + (1 : Int32))) (L1 := [some (.ref (wad Γ 108)), some (.int p0), some (.int x5), some (.int (x8 + (1 : Int32)))]) (dkAt dk_X12_stepsMass 39 rfl) 65 rfl rfl rfl (by decide) rfl ?_
      refine x_goto C 36 (dkAt dk_X12_stepsMass 40 rfl) (by decide) ?_
      exact G.weak (L := [some (.ref (wad Γ 108)), some (.int p0), some (.int x5), some (.int (x8 + (1 : Int32)))]) ⟨rfl, rfl, rfl, rfl, trivial⟩ (ih _ _ hf)
set_option maxRecDepth 100000 in
theorem l_X12_stepsMass_L24 {Γ : WC} {X : MX} (hN : HN Γ) (C : CX Γ X cX12_stepsMass 4 RX12 none (rmL 2 0 0)) {rM : Unit × Mem} (E : EndN Γ X none rM.2 0 0) {Z : Nat} {p0 : Int32} {k : Mem → Option (Unit × Mem)} (hk : ∀  (Mx : Mem), k Mx = some rM → G Γ X Mx 0 0 [some (.ref (wad Γ 108))] [] 74) : ∀ (n : Nat) (x5 : Int32) (M6 : Mem), f_X12_stepsMass_L24 Z p0 k n x5 M6 = some rM → G Γ X M6 0 0 [some (.ref (wad Γ 108)), some (.int p0), some (.int x5)] [] 24 := by
  intro n
  induction n with
  | zero =>
    intro x5 M6 hf
    have hf0 : (none : Option _) = some rM := hf
    cases hf0
  | succ n ih =>
    intro x5 M6 hf
    rw [f_X12_stepsMass_L24] at hf
    refine x_iload_n C rfl rfl (dkAt dk_X12_stepsMass 14 rfl) 25 rfl ?_
    refine x_aload_n C rfl rfl (dkAt dk_X12_stepsMass 15 rfl) 26 rfl ?_
    refine x_getS C lk_RX12_20 (hN.sh sh108) (hN.sr sr108_6) (dkAt dk_X12_stepsMass 16 rfl) 29 rfl ?_
    refine x_iconst C (v := (0 : Int32)) (by decide) (dkAt dk_X12_stepsMass 17 rfl) 30 rfl ?_
    refine x_iald C (hN.sh sh112) (dkAt dk_X12_stepsMass 18 rfl) 31 rfl hf (fun v7 hf => ?_)
    refine x_icmp_ge C 74 (dkAt dk_X12_stepsMass 19 rfl) 34 rfl (by decide) hf (fun hf => ?_) (fun hf => ?_)
    · exact G.weak (L := [some (.ref (wad Γ 108))]) ⟨rfl, trivial⟩ (hk _ hf)
    · refine x_iconst C (v := (0 : Int32)) (by decide) (dkAt dk_X12_stepsMass 20 rfl) 35 rfl ?_
      refine x_istore_n C (L1 := [some (.ref (wad Γ 108)), some (.int p0), some (.int x5), some (.int (0 : Int32))]) (dkAt dk_X12_stepsMass 21 rfl) 36 rfl rfl (by decide) rfl ?_
      refine G.weak (L := [some (.ref (wad Γ 108)), some (.int p0), some (.int x5), some (.int (0 : Int32))]) ⟨rfl, rfl, rfl, rfl, trivial⟩ ?_
      refine l_X12_stepsMass_L36 hN C E ?_ Z _ _ hf
      intro M17 hf
      refine x_iinc C (v := (x5 + (1 : Int32))) (L1 := [some (.ref (wad Γ 108)), some (.int p0), some (.int (x5 + (1 : Int32)))]) (dkAt dk_X12_stepsMass 41 rfl) 71 rfl rfl rfl (by decide) rfl ?_
      refine x_goto C 24 (dkAt dk_X12_stepsMass 42 rfl) (by decide) ?_
      exact G.weak (L := [some (.ref (wad Γ 108)), some (.int p0), some (.int (x5 + (1 : Int32)))]) ⟨rfl, rfl, rfl, trivial⟩ (ih _ _ hf)
set_option maxRecDepth 100000 in
theorem l_X12_stepsMass_L76 {Γ : WC} {X : MX} (hN : HN Γ) (C : CX Γ X cX12_stepsMass 4 RX12 none (rmL 2 0 0)) {rM : Unit × Mem} (E : EndN Γ X none rM.2 0 0) {Z : Nat} : ∀ (n : Nat) (x19 : Int32) (M20 : Mem), f_X12_stepsMass_L76 Z n x19 M20 = some rM → G Γ X M20 0 0 [some (.ref (wad Γ 108)), none, some (.int x19)] [] 76 := by
  intro n
  induction n with
  | zero =>
    intro x19 M20 hf
    have hf0 : (none : Option _) = some rM := hf
    cases hf0
  | succ n ih =>
    intro x19 M20 hf
    rw [f_X12_stepsMass_L76] at hf
    refine x_iload_n C rfl rfl (dkAt dk_X12_stepsMass 45 rfl) 77 rfl ?_
    refine x_sipush C (v := (2976 : Int32)) (by decide) (dkAt dk_X12_stepsMass 46 rfl) 80 rfl ?_
    refine x_icmp_ge C 101 (dkAt dk_X12_stepsMass 47 rfl) 83 rfl (by decide) hf (fun hf => ?_) (fun hf => ?_)
    · exact x_vret C E hf (by decide) (by decide) (dkAt dk_X12_stepsMass 58 rfl)
    · refine x_aload_n C rfl rfl (dkAt dk_X12_stepsMass 48 rfl) 84 rfl ?_
      refine x_getS C lk_RX12_40 (hN.sh sh108) (hN.sr sr108_22) (dkAt dk_X12_stepsMass 49 rfl) 87 rfl ?_
      refine x_iload_n C rfl rfl (dkAt dk_X12_stepsMass 50 rfl) 88 rfl ?_
      refine x_aload_n C rfl rfl (dkAt dk_X12_stepsMass 51 rfl) 89 rfl ?_
      refine x_getS C lk_RX12_43 (hN.sh sh108) (hN.sr sr108_23) (dkAt dk_X12_stepsMass 52 rfl) 92 rfl ?_
      refine x_iload_n C rfl rfl (dkAt dk_X12_stepsMass 53 rfl) 93 rfl ?_
      refine x_lald C (hN.sh sh118) (dkAt dk_X12_stepsMass 54 rfl) 94 rfl hf (fun v21 hf => ?_)
      refine x_last C (hN.sh sh117) (dkAt dk_X12_stepsMass 55 rfl) 95 rfl hf (fun M22 hf => ?_)
      refine x_iinc C (v := (x19 + (1 : Int32))) (L1 := [some (.ref (wad Γ 108)), none, some (.int (x19 + (1 : Int32)))]) (dkAt dk_X12_stepsMass 56 rfl) 98 rfl rfl rfl (by decide) rfl ?_
      refine x_goto C 76 (dkAt dk_X12_stepsMass 57 rfl) (by decide) ?_
      exact G.weak (L := [some (.ref (wad Γ 108)), none, some (.int (x19 + (1 : Int32)))]) ⟨rfl, rfl, trivial⟩ (ih _ _ hf)
set_option maxRecDepth 100000 in
theorem c_X12_stepsMass {Γ : WC} (hN : HN Γ) {Z : Nat} {M : Mem} {p0 : Int32} {rM : Unit × Mem}  (hf : f_X12_stepsMass Z M p0 = some rM) : Ct Γ yX12_stepsMass cX12_stepsMass 4 none (rmL 2 0 0) [.ref (wad Γ 108), .int p0] M none rM.2 := by
  refine mkN hN.1 (own := RX12) rfl (by decide) (Nat.le_of_ble_eq_true rfl) (fun X C E => ?_)
  change G Γ X M 0 0 [some (.ref (wad Γ 108)), some (.int p0)] [] 0
  unfold f_X12_stepsMass at hf
  refine x_iconst C (v := (0 : Int32)) (by decide) (dkAt dk_X12_stepsMass 0 rfl) 1 rfl ?_
  refine x_istore_n C (L1 := [some (.ref (wad Γ 108)), some (.int p0), some (.int (0 : Int32))]) (dkAt dk_X12_stepsMass 1 rfl) 2 rfl rfl (by decide) rfl ?_
  refine G.weak (L := [some (.ref (wad Γ 108)), some (.int p0), some (.int (0 : Int32))]) ⟨rfl, rfl, rfl, trivial⟩ ?_
  refine l_X12_stepsMass_L2 hN C E ?_ Z _ _ hf
  intro M4 hf
  refine x_iconst C (v := (0 : Int32)) (by decide) (dkAt dk_X12_stepsMass 12 rfl) 23 rfl ?_
  refine x_istore_n C (L1 := [some (.ref (wad Γ 108)), some (.int p0), some (.int (0 : Int32))]) (dkAt dk_X12_stepsMass 13 rfl) 24 rfl rfl (by decide) rfl ?_
  refine G.weak (L := [some (.ref (wad Γ 108)), some (.int p0), some (.int (0 : Int32))]) ⟨rfl, rfl, rfl, trivial⟩ ?_
  refine l_X12_stepsMass_L24 hN C E ?_ Z _ _ hf
  intro M18 hf
  refine x_iconst C (v := (0 : Int32)) (by decide) (dkAt dk_X12_stepsMass 43 rfl) 75 rfl ?_
  refine x_istore_n C (L1 := [some (.ref (wad Γ 108)), none, some (.int (0 : Int32))]) (dkAt dk_X12_stepsMass 44 rfl) 76 rfl rfl (by decide) rfl ?_
  refine G.weak (L := [some (.ref (wad Γ 108)), none, some (.int (0 : Int32))]) ⟨rfl, rfl, trivial⟩ ?_
  refine l_X12_stepsMass_L76 hN C E Z _ _ hf
def f_X12_laysMass_L2 (Z : Nat) (p0 : Int32) (k : Mem → Option (Unit × Mem)) : Nat → Int32 → Mem → Option (Unit × Mem)
  | 0, _, _ => none
  | n + 1, x1, M2 => (if (2976 : Int32) ≤ x1 then k M2 else wrL M2 117 2976 x1 (0 : Int64) (fun M3 => f_X12_laysMass_L2 Z p0 k n (x1 + (1 : Int32)) M3))
def f_X12_laysMass_L40 (Z : Nat) (p0 : Int32) : Nat → Int32 → Mem → Option (Unit × Mem)
  | 0, _, _ => none
  | n + 1, x7, M8 => rdI M8 109 54 (1 : Int32) (fun v9 => (if v9 ≤ x7 then some ((), M8) else cl (f_X12_stepsMass Z M8 p0) (fun v10 M11 => f_X12_laysMass_L40 Z p0 n (x7 + (1 : Int32)) M11)))
def f_X12_laysMass (Z : Nat) (M : Mem) (p0 : Int32) : Option (Unit × Mem) :=
  f_X12_laysMass_L2 Z p0 (fun (M4 : Mem) => rdI M4 109 54 (0 : Int32) (fun v5 => wrL M4 117 2976 ((496 : Int32) * v5) (1 : Int64) (fun M6 => f_X12_laysMass_L40 Z p0 Z (0 : Int32) M6))) Z (0 : Int32) M
set_option maxRecDepth 100000 in
theorem l_X12_laysMass_L2 {Γ : WC} {X : MX} (hN : HN Γ) (C : CX Γ X cX12_laysMass 3 RX12 none (rmL 3 0 0)) {rM : Unit × Mem} (E : EndN Γ X none rM.2 0 0) {Z : Nat} {p0 : Int32} {k : Mem → Option (Unit × Mem)} (hk : ∀  (Mx : Mem), k Mx = some rM → G Γ X Mx 0 0 [some (.ref (wad Γ 108)), some (.int p0)] [] 22) : ∀ (n : Nat) (x1 : Int32) (M2 : Mem), f_X12_laysMass_L2 Z p0 k n x1 M2 = some rM → G Γ X M2 0 0 [some (.ref (wad Γ 108)), some (.int p0), some (.int x1)] [] 2 := by
  intro n
  induction n with
  | zero =>
    intro x1 M2 hf
    have hf0 : (none : Option _) = some rM := hf
    cases hf0
  | succ n ih =>
    intro x1 M2 hf
    rw [f_X12_laysMass_L2] at hf
    refine x_iload_n C rfl rfl (dkAt dk_X12_laysMass 2 rfl) 3 rfl ?_
    refine x_sipush C (v := (2976 : Int32)) (by decide) (dkAt dk_X12_laysMass 3 rfl) 6 rfl ?_
    refine x_icmp_ge C 22 (dkAt dk_X12_laysMass 4 rfl) 9 rfl (by decide) hf (fun hf => ?_) (fun hf => ?_)
    · exact G.weak (L := [some (.ref (wad Γ 108)), some (.int p0)]) ⟨rfl, rfl, trivial⟩ (hk _ hf)
    · refine x_aload_n C rfl rfl (dkAt dk_X12_laysMass 5 rfl) 10 rfl ?_
      refine x_getS C lk_RX12_40 (hN.sh sh108) (hN.sr sr108_22) (dkAt dk_X12_laysMass 6 rfl) 13 rfl ?_
      refine x_iload_n C rfl rfl (dkAt dk_X12_laysMass 7 rfl) 14 rfl ?_
      refine x_lconst C (v := (0 : Int64)) (by decide) (dkAt dk_X12_laysMass 8 rfl) 15 rfl ?_
      refine x_last C (hN.sh sh117) (dkAt dk_X12_laysMass 9 rfl) 16 rfl hf (fun M3 hf => ?_)
      refine x_iinc C (v := (x1 + (1 : Int32))) (L1 := [some (.ref (wad Γ 108)), some (.int p0), some (.int (x1 + (1 : Int32)))]) (dkAt dk_X12_laysMass 10 rfl) 19 rfl rfl rfl (by decide) rfl ?_
      refine x_goto C 2 (dkAt dk_X12_laysMass 11 rfl) (by decide) ?_
      exact G.weak (L := [some (.ref (wad Γ 108)), some (.int p0), some (.int (x1 + (1 : Int32)))]) ⟨rfl, rfl, rfl, trivial⟩ (ih _ _ hf)
set_option maxRecDepth 100000 in
theorem l_X12_laysMass_L40 {Γ : WC} {X : MX} (hN : HN Γ) (C : CX Γ X cX12_laysMass 3 RX12 none (rmL 3 0 0)) {rM : Unit × Mem} (E : EndN Γ X none rM.2 0 0) {Z : Nat} {p0 : Int32} : ∀ (n : Nat) (x7 : Int32) (M8 : Mem), f_X12_laysMass_L40 Z p0 n x7 M8 = some rM → G Γ X M8 0 0 [some (.ref (wad Γ 108)), some (.int p0), some (.int x7)] [] 40 := by
  intro n
  induction n with
  | zero =>
    intro x7 M8 hf
    have hf0 : (none : Option _) = some rM := hf
    cases hf0
  | succ n ih =>
    intro x7 M8 hf
    rw [f_X12_laysMass_L40] at hf
    refine x_iload_n C rfl rfl (dkAt dk_X12_laysMass 24 rfl) 41 rfl ?_
    refine x_aload_n C rfl rfl (dkAt dk_X12_laysMass 25 rfl) 42 rfl ?_
    refine x_getS C lk_RX12_7 (hN.sh sh108) (hN.sr sr108_2) (dkAt dk_X12_laysMass 26 rfl) 45 rfl ?_
    refine x_iconst C (v := (1 : Int32)) (by decide) (dkAt dk_X12_laysMass 27 rfl) 46 rfl ?_
    refine x_iald C (hN.sh sh109) (dkAt dk_X12_laysMass 28 rfl) 47 rfl hf (fun v9 hf => ?_)
    refine x_icmp_ge C 61 (dkAt dk_X12_laysMass 29 rfl) 50 rfl (by decide) hf (fun hf => ?_) (fun hf => ?_)
    · exact x_vret C E hf (by decide) (by decide) (dkAt dk_X12_laysMass 35 rfl)
    · refine x_aload_n C rfl rfl (dkAt dk_X12_laysMass 30 rfl) 51 rfl ?_
      refine x_iload_n C rfl rfl (dkAt dk_X12_laysMass 31 rfl) 52 rfl ?_
      obtain ⟨v10, M11, h12, hf⟩ := cl_inv hf
      refine x_cVv C (c_X12_stepsMass hN h12) mw_X12_stepsMass ln_RX12_296 mi_X12_stepsMass (hN.rc (ci := 12) sh108 rc12) (ro_of (by decide) (by decide) (by decide) (by decide)) rfl rfl (Nat.le_of_ble_eq_true rfl) (dkAt dk_X12_laysMass 32 rfl) 55 rfl 0 0 rfl rfl ?_
      refine x_iinc C (v := (x7 + (1 : Int32))) (L1 := [some (.ref (wad Γ 108)), some (.int p0), some (.int (x7 + (1 : Int32)))]) (dkAt dk_X12_laysMass 33 rfl) 58 rfl rfl rfl (by decide) rfl ?_
      refine x_goto C 40 (dkAt dk_X12_laysMass 34 rfl) (by decide) ?_
      exact G.weak (L := [some (.ref (wad Γ 108)), some (.int p0), some (.int (x7 + (1 : Int32)))]) ⟨rfl, rfl, rfl, trivial⟩ (ih _ _ hf)
set_option maxRecDepth 100000 in
theorem c_X12_laysMass {Γ : WC} (hN : HN Γ) {Z : Nat} {M : Mem} {p0 : Int32} {rM : Unit × Mem}  (hf : f_X12_laysMass Z M p0 = some rM) : Ct Γ yX12_laysMass cX12_laysMass 3 none (rmL 3 0 0) [.ref (wad Γ 108), .int p0] M none rM.2 := by
  refine mkN hN.1 (own := RX12) rfl (by decide) (Nat.le_of_ble_eq_true rfl) (fun X C E => ?_)
  change G Γ X M 0 0 [some (.ref (wad Γ 108)), some (.int p0)] [] 0
  unfold f_X12_laysMass at hf
  refine x_iconst C (v := (0 : Int32)) (by decide) (dkAt dk_X12_laysMass 0 rfl) 1 rfl ?_
  refine x_istore_n C (L1 := [some (.ref (wad Γ 108)), some (.int p0), some (.int (0 : Int32))]) (dkAt dk_X12_laysMass 1 rfl) 2 rfl rfl (by decide) rfl ?_
  refine G.weak (L := [some (.ref (wad Γ 108)), some (.int p0), some (.int (0 : Int32))]) ⟨rfl, rfl, rfl, trivial⟩ ?_
  refine l_X12_laysMass_L2 hN C E ?_ Z _ _ hf
  intro M4 hf
  refine x_aload_n C rfl rfl (dkAt dk_X12_laysMass 12 rfl) 23 rfl ?_
  refine x_getS C lk_RX12_40 (hN.sh sh108) (hN.sr sr108_22) (dkAt dk_X12_laysMass 13 rfl) 26 rfl ?_
  refine x_sipush C (v := (496 : Int32)) (by decide) (dkAt dk_X12_laysMass 14 rfl) 29 rfl ?_
  refine x_aload_n C rfl rfl (dkAt dk_X12_laysMass 15 rfl) 30 rfl ?_
  refine x_getS C lk_RX12_7 (hN.sh sh108) (hN.sr sr108_2) (dkAt dk_X12_laysMass 16 rfl) 33 rfl ?_
  refine x_iconst C (v := (0 : Int32)) (by decide) (dkAt dk_X12_laysMass 17 rfl) 34 rfl ?_
  refine x_iald C (hN.sh sh109) (dkAt dk_X12_laysMass 18 rfl) 35 rfl hf (fun v5 hf => ?_)
  refine x_imul C (dkAt dk_X12_laysMass 19 rfl) 36 rfl ?_
  refine x_lconst C (v := (1 : Int64)) (by decide) (dkAt dk_X12_laysMass 20 rfl) 37 rfl ?_
  refine x_last C (hN.sh sh117) (dkAt dk_X12_laysMass 21 rfl) 38 rfl hf (fun M6 hf => ?_)
  refine x_iconst C (v := (0 : Int32)) (by decide) (dkAt dk_X12_laysMass 22 rfl) 39 rfl ?_
  refine x_istore_n C (L1 := [some (.ref (wad Γ 108)), some (.int p0), some (.int (0 : Int32))]) (dkAt dk_X12_laysMass 23 rfl) 40 rfl rfl (by decide) rfl ?_
  refine G.weak (L := [some (.ref (wad Γ 108)), some (.int p0), some (.int (0 : Int32))]) ⟨rfl, rfl, rfl, trivial⟩ ?_
  refine l_X12_laysMass_L40 hN C E Z _ _ hf
def f_X12_massOf_L5 (Z : Nat) (M : Mem) (p0 : Int32) : Nat → Int64 → Int32 → Option (Int64 × Mem)
  | 0, _, _ => none
  | n + 1, x1, x2 => rdI M 112 344 (0 : Int32) (fun v3 => (if v3 ≤ x2 then some (x1, M) else rdL M 117 2976 (((496 : Int32) * x2) + p0) (fun v4 => f_X12_massOf_L5 Z M p0 n (x1 + v4) (x2 + (1 : Int32)))))
def f_X12_massOf (Z : Nat) (M : Mem) (p0 : Int32) : Option (Int64 × Mem) :=
  f_X12_massOf_L5 Z M p0 Z (0 : Int64) (0 : Int32)
set_option maxRecDepth 100000 in
theorem l_X12_massOf_L5 {Γ : WC} {X : MX} (hN : HN Γ) (C : CX Γ X cX12_massOf 5 RX12 (some .long) (rmL 0 0 0)) {rM : Int64 × Mem} (E : EndN Γ X (some (.long rM.1)) rM.2 0 0) {Z : Nat} {M : Mem} {p0 : Int32} : ∀ (n : Nat) (x1 : Int64) (x2 : Int32), f_X12_massOf_L5 Z M p0 n x1 x2 = some rM → G Γ X M 0 0 [some (.ref (wad Γ 108)), some (.int p0), some (.long x1), none, some (.int x2)] [] 5 := by
  intro n
  induction n with
  | zero =>
    intro x1 x2 hf
    have hf0 : (none : Option _) = some rM := hf
    cases hf0
  | succ n ih =>
    intro x1 x2 hf
    rw [f_X12_massOf_L5] at hf
    refine x_iload C rfl (dkAt dk_X12_massOf 4 rfl) 7 rfl ?_
    refine x_aload_n C rfl rfl (dkAt dk_X12_massOf 5 rfl) 8 rfl ?_
    refine x_getS C lk_RX12_20 (hN.sh sh108) (hN.sr sr108_6) (dkAt dk_X12_massOf 6 rfl) 11 rfl ?_
    refine x_iconst C (v := (0 : Int32)) (by decide) (dkAt dk_X12_massOf 7 rfl) 12 rfl ?_
    refine x_iald C (hN.sh sh112) (dkAt dk_X12_massOf 8 rfl) 13 rfl hf (fun v3 hf => ?_)
    refine x_icmp_ge C 38 (dkAt dk_X12_massOf 9 rfl) 16 rfl (by decide) hf (fun hf => ?_) (fun hf => ?_)
    · refine x_lload_n C rfl rfl (dkAt dk_X12_massOf 23 rfl) 39 rfl ?_
      exact x_lret C E hf (by decide) (by decide) (dkAt dk_X12_massOf 24 rfl)
    · refine x_lload_n C rfl rfl (dkAt dk_X12_massOf 10 rfl) 17 rfl ?_
      refine x_aload_n C rfl rfl (dkAt dk_X12_massOf 11 rfl) 18 rfl ?_
      refine x_getS C lk_RX12_40 (hN.sh sh108) (hN.sr sr108_22) (dkAt dk_X12_massOf 12 rfl) 21 rfl ?_
      refine x_sipush C (v := (496 : Int32)) (by decide) (dkAt dk_X12_massOf 13 rfl) 24 rfl ?_
      refine x_iload C rfl (dkAt dk_X12_massOf 14 rfl) 26 rfl ?_
      refine x_imul C (dkAt dk_X12_massOf 15 rfl) 27 rfl ?_
      refine x_iload_n C rfl rfl (dkAt dk_X12_massOf 16 rfl) 28 rfl ?_
      refine x_iadd C (dkAt dk_X12_massOf 17 rfl) 29 rfl ?_
      refine x_lald C (hN.sh sh117) (dkAt dk_X12_massOf 18 rfl) 30 rfl hf (fun v4 hf => ?_)
      refine x_ladd C (dkAt dk_X12_massOf 19 rfl) 31 rfl ?_
      refine x_lstore_n C (L1 := [some (.ref (wad Γ 108)), some (.int p0), some (.long (x1 + v4)), none, some (.int x2)]) (dkAt dk_X12_massOf 20 rfl) 32 rfl rfl (by decide) rfl ?_
      refine x_iinc C (v := (x2 + (1 : Int32))) (L1 := [some (.ref (wad Γ 108)), some (.int p0), some (.long (x1 + v4)), none, some (.int (x2 + (1 : Int32)))]) (dkAt dk_X12_massOf 21 rfl) 35 rfl rfl rfl (by decide) rfl ?_
      refine x_goto C 5 (dkAt dk_X12_massOf 22 rfl) (by decide) ?_
      exact G.weak (L := [some (.ref (wad Γ 108)), some (.int p0), some (.long (x1 + v4)), none, some (.int (x2 + (1 : Int32)))]) ⟨rfl, rfl, rfl, rfl, trivial⟩ (ih _ _ hf)
set_option maxRecDepth 100000 in
theorem c_X12_massOf {Γ : WC} (hN : HN Γ) {Z : Nat} {M : Mem} {p0 : Int32} {rM : Int64 × Mem}  (hf : f_X12_massOf Z M p0 = some rM) : Ct Γ yX12_massOf cX12_massOf 5 (some .long) (rmL 0 0 0) [.ref (wad Γ 108), .int p0] M (some (.long rM.1)) rM.2 := by
  refine mkN hN.1 (own := RX12) rfl (by decide) (Nat.le_of_ble_eq_true rfl) (fun X C E => ?_)
  change G Γ X M 0 0 [some (.ref (wad Γ 108)), some (.int p0)] [] 0
  unfold f_X12_massOf at hf
  refine x_lconst C (v := (0 : Int64)) (by decide) (dkAt dk_X12_massOf 0 rfl) 1 rfl ?_
  refine x_lstore_n C (L1 := [some (.ref (wad Γ 108)), some (.int p0), some (.long (0 : Int64))]) (dkAt dk_X12_massOf 1 rfl) 2 rfl rfl (by decide) rfl ?_
  refine x_iconst C (v := (0 : Int32)) (by decide) (dkAt dk_X12_massOf 2 rfl) 3 rfl ?_
  refine x_istore C (L1 := [some (.ref (wad Γ 108)), some (.int p0), some (.long (0 : Int64)), none, some (.int (0 : Int32))]) (dkAt dk_X12_massOf 3 rfl) 5 rfl (by decide) rfl ?_
  refine G.weak (L := [some (.ref (wad Γ 108)), some (.int p0), some (.long (0 : Int64)), none, some (.int (0 : Int32))]) ⟨rfl, rfl, rfl, rfl, trivial⟩ ?_
  refine l_X12_massOf_L5 hN C E Z _ _ hf
def f_X12_within_L20 (Z : Nat) (p0 : Int32) : Nat → Int64 → Int32 → Mem → Option (Int64 × Mem)
  | 0, _, _, _ => none
  | n + 1, x5, x6, M7 => (if (496 : Int32) ≤ x6 then some (x5, M7) else rdI M7 109 54 ((40 : Int32) + p0) (fun v8 => (if v8 < x6 then some (x5, M7) else cl (f_X12_massOf Z M7 x6) (fun v9 M10 => f_X12_within_L20 Z p0 n (x5 + v9) (x6 + (1 : Int32)) M10))))
def f_X12_within (Z : Nat) (M : Mem) (p0 : Int32) : Option (Int64 × Mem) :=
  cl (f_X12_noBudget Z M p0) (fun v1 M2 => (if v1 = 0 then cl (f_X12_laysMass Z M2 p0) (fun v3 M4 => f_X12_within_L20 Z p0 Z (0 : Int64) (0 : Int32) M4) else some ((0 : Int64), M2)))
set_option maxRecDepth 100000 in
theorem l_X12_within_L20 {Γ : WC} {X : MX} (hN : HN Γ) (C : CX Γ X cX12_within 5 RX12 (some .long) (rmL 4 0 0)) {rM : Int64 × Mem} (E : EndN Γ X (some (.long rM.1)) rM.2 0 0) {Z : Nat} {p0 : Int32} : ∀ (n : Nat) (x5 : Int64) (x6 : Int32) (M7 : Mem), f_X12_within_L20 Z p0 n x5 x6 M7 = some rM → G Γ X M7 0 0 [some (.ref (wad Γ 108)), some (.int p0), some (.long x5), none, some (.int x6)] [] 20 := by
  intro n
  induction n with
  | zero =>
    intro x5 x6 M7 hf
    have hf0 : (none : Option _) = some rM := hf
    cases hf0
  | succ n ih =>
    intro x5 x6 M7 hf
    rw [f_X12_within_L20] at hf
    refine x_iload C rfl (dkAt dk_X12_within 13 rfl) 22 rfl ?_
    refine x_sipush C (v := (496 : Int32)) (by decide) (dkAt dk_X12_within 14 rfl) 25 rfl ?_
    refine x_icmp_ge C 57 (dkAt dk_X12_within 15 rfl) 28 rfl (by decide) hf (fun hf => ?_) (fun hf => ?_)
    · refine x_lload_n C rfl rfl (dkAt dk_X12_within 32 rfl) 58 rfl ?_
      exact x_lret C E hf (by decide) (by decide) (dkAt dk_X12_within 33 rfl)
    · refine x_iload C rfl (dkAt dk_X12_within 16 rfl) 30 rfl ?_
      refine x_aload_n C rfl rfl (dkAt dk_X12_within 17 rfl) 31 rfl ?_
      refine x_getS C lk_RX12_7 (hN.sh sh108) (hN.sr sr108_2) (dkAt dk_X12_within 18 rfl) 34 rfl ?_
      refine x_bipush C (v := (40 : Int32)) (by decide) (dkAt dk_X12_within 19 rfl) 36 rfl ?_
      refine x_iload_n C rfl rfl (dkAt dk_X12_within 20 rfl) 37 rfl ?_
      refine x_iadd C (dkAt dk_X12_within 21 rfl) 38 rfl ?_
      refine x_iald C (hN.sh sh109) (dkAt dk_X12_within 22 rfl) 39 rfl hf (fun v8 hf => ?_)
      refine x_icmp_gt C 57 (dkAt dk_X12_within 23 rfl) 42 rfl (by decide) hf (fun hf => ?_) (fun hf => ?_)
      · refine x_lload_n C rfl rfl (dkAt dk_X12_within 32 rfl) 58 rfl ?_
        exact x_lret C E hf (by decide) (by decide) (dkAt dk_X12_within 33 rfl)
      · refine x_lload_n C rfl rfl (dkAt dk_X12_within 24 rfl) 43 rfl ?_
        refine x_aload_n C rfl rfl (dkAt dk_X12_within 25 rfl) 44 rfl ?_
        refine x_iload C rfl (dkAt dk_X12_within 26 rfl) 46 rfl ?_
        obtain ⟨v9, M10, h11, hf⟩ := cl_inv hf
        refine x_cVl C (c_X12_massOf hN h11) mw_X12_massOf ln_RX12_306 mi_X12_massOf (hN.rc (ci := 12) sh108 rc12) (ro_of (by decide) (by decide) (by decide) (by decide)) rfl rfl (Nat.le_of_ble_eq_true rfl) (dkAt dk_X12_within 27 rfl) 49 rfl 0 0 rfl rfl ?_
        refine x_ladd C (dkAt dk_X12_within 28 rfl) 50 rfl ?_
        refine x_lstore_n C (L1 := [some (.ref (wad Γ 108)), some (.int p0), some (.long (x5 + v9)), none, some (.int x6)]) (dkAt dk_X12_within 29 rfl) 51 rfl rfl (by decide) rfl ?_
        refine x_iinc C (v := (x6 + (1 : Int32))) (L1 := [some (.ref (wad Γ 108)), some (.int p0), some (.long (x5 + v9)), none, some (.int (x6 + (1 : Int32)))]) (dkAt dk_X12_within 30 rfl) 54 rfl rfl rfl (by decide) rfl ?_
        refine x_goto C 20 (dkAt dk_X12_within 31 rfl) (by decide) ?_
        exact G.weak (L := [some (.ref (wad Γ 108)), some (.int p0), some (.long (x5 + v9)), none, some (.int (x6 + (1 : Int32)))]) ⟨rfl, rfl, rfl, rfl, trivial⟩ (ih _ _ _ hf)
set_option maxRecDepth 100000 in
theorem c_X12_within {Γ : WC} (hN : HN Γ) {Z : Nat} {M : Mem} {p0 : Int32} {rM : Int64 × Mem}  (hf : f_X12_within Z M p0 = some rM) : Ct Γ yX12_within cX12_within 5 (some .long) (rmL 4 0 0) [.ref (wad Γ 108), .int p0] M (some (.long rM.1)) rM.2 := by
  refine mkN hN.1 (own := RX12) rfl (by decide) (Nat.le_of_ble_eq_true rfl) (fun X C E => ?_)
  change G Γ X M 0 0 [some (.ref (wad Γ 108)), some (.int p0)] [] 0
  unfold f_X12_within at hf
  refine x_aload_n C rfl rfl (dkAt dk_X12_within 0 rfl) 1 rfl ?_
  refine x_iload_n C rfl rfl (dkAt dk_X12_within 1 rfl) 2 rfl ?_
  obtain ⟨v1, M2, h13, hf⟩ := cl_inv hf
  refine x_cVi C (c_X12_noBudget hN h13) mw_X12_noBudget ln_RX12_258 mi_X12_noBudget (hN.rc (ci := 12) sh108 rc12) (ro_of (by decide) (by decide) (by decide) (by decide)) rfl rfl (Nat.le_of_ble_eq_true rfl) (dkAt dk_X12_within 2 rfl) 5 rfl 0 0 rfl rfl ?_
  refine x_if_eq C 10 (dkAt dk_X12_within 3 rfl) 8 rfl (by decide) hf (fun hf => ?_) (fun hf => ?_)
  · refine x_aload_n C rfl rfl (dkAt dk_X12_within 6 rfl) 11 rfl ?_
    refine x_iload_n C rfl rfl (dkAt dk_X12_within 7 rfl) 12 rfl ?_
    obtain ⟨v3, M4, h12, hf⟩ := cl_inv hf
    refine x_cVv C (c_X12_laysMass hN h12) mw_X12_laysMass ln_RX12_303 mi_X12_laysMass (hN.rc (ci := 12) sh108 rc12) (ro_of (by decide) (by decide) (by decide) (by decide)) rfl rfl (Nat.le_of_ble_eq_true rfl) (dkAt dk_X12_within 8 rfl) 15 rfl 0 0 rfl rfl ?_
    refine x_lconst C (v := (0 : Int64)) (by decide) (dkAt dk_X12_within 9 rfl) 16 rfl ?_
    refine x_lstore_n C (L1 := [some (.ref (wad Γ 108)), some (.int p0), some (.long (0 : Int64))]) (dkAt dk_X12_within 10 rfl) 17 rfl rfl (by decide) rfl ?_
    refine x_iconst C (v := (0 : Int32)) (by decide) (dkAt dk_X12_within 11 rfl) 18 rfl ?_
    refine x_istore C (L1 := [some (.ref (wad Γ 108)), some (.int p0), some (.long (0 : Int64)), none, some (.int (0 : Int32))]) (dkAt dk_X12_within 12 rfl) 20 rfl (by decide) rfl ?_
    refine G.weak (L := [some (.ref (wad Γ 108)), some (.int p0), some (.long (0 : Int64)), none, some (.int (0 : Int32))]) ⟨rfl, rfl, rfl, rfl, trivial⟩ ?_
    refine l_X12_within_L20 hN C E Z _ _ _ hf
  · refine x_lconst C (v := (0 : Int64)) (by decide) (dkAt dk_X12_within 4 rfl) 9 rfl ?_
    exact x_lret C E hf (by decide) (by decide) (dkAt dk_X12_within 5 rfl)
def f_X12_mostUsed_L19 (Z : Nat) : Nat → Int32 → Mem → Option (Int32 × Mem)
  | 0, _, _ => none
  | n + 1, x5, M6 => cl (f_X12_massOf Z M6 x5) (fun v7 M8 => (if v7 = (0 : Int64) then f_X12_mostUsed_L19 Z n (x5 + (-1 : Int32)) M8 else some (x5, M8)))
def f_X12_mostUsed (Z : Nat) (M : Mem) (p0 : Int32) : Option (Int32 × Mem) :=
  cl (f_X12_noBudget Z M p0) (fun v1 M2 => (if v1 = 0 then cl (f_X12_laysMass Z M2 p0) (fun v3 M4 => f_X12_mostUsed_L19 Z Z (495 : Int32) M4) else some ((0 : Int32), M2)))
set_option maxRecDepth 100000 in
theorem l_X12_mostUsed_L19 {Γ : WC} {X : MX} (hN : HN Γ) (C : CX Γ X cX12_mostUsed 3 RX12 (some .int) (rmL 4 0 0)) {rM : Int32 × Mem} (E : EndN Γ X (some (.int rM.1)) rM.2 0 0) {Z : Nat} : ∀ (n : Nat) (x5 : Int32) (M6 : Mem), f_X12_mostUsed_L19 Z n x5 M6 = some rM → G Γ X M6 0 0 [some (.ref (wad Γ 108)), none, some (.int x5)] [] 19 := by
  intro n
  induction n with
  | zero =>
    intro x5 M6 hf
    have hf0 : (none : Option _) = some rM := hf
    cases hf0
  | succ n ih =>
    intro x5 M6 hf
    rw [f_X12_mostUsed_L19] at hf
    refine x_aload_n C rfl rfl (dkAt dk_X12_mostUsed 11 rfl) 20 rfl ?_
    refine x_iload_n C rfl rfl (dkAt dk_X12_mostUsed 12 rfl) 21 rfl ?_
    obtain ⟨v7, M8, h9, hf⟩ := cl_inv hf
    refine x_cVl C (c_X12_massOf hN h9) mw_X12_massOf ln_RX12_306 mi_X12_massOf (hN.rc (ci := 12) sh108 rc12) (ro_of (by decide) (by decide) (by decide) (by decide)) rfl rfl (Nat.le_of_ble_eq_true rfl) (dkAt dk_X12_mostUsed 13 rfl) 24 rfl 0 0 rfl rfl ?_
    refine x_lconst C (v := (0 : Int64)) (by decide) (dkAt dk_X12_mostUsed 14 rfl) 25 rfl ?_
    refine x_lcmp_ne C 35 (dkAt dk_X12_mostUsed 15 rfl) 29 rfl (dkAt dk_X12_mostUsed 16 rfl) (by decide) hf (fun hf => ?_) (fun hf => ?_)
    · refine x_iload_n C rfl rfl (dkAt dk_X12_mostUsed 19 rfl) 36 rfl ?_
      exact x_iret C E hf (by decide) (by decide) (dkAt dk_X12_mostUsed 20 rfl)
    · refine x_iinc C (v := (x5 + (-1 : Int32))) (L1 := [some (.ref (wad Γ 108)), none, some (.int (x5 + (-1 : Int32)))]) (dkAt dk_X12_mostUsed 17 rfl) 32 rfl rfl rfl (by decide) rfl ?_
      refine x_goto C 19 (dkAt dk_X12_mostUsed 18 rfl) (by decide) ?_
      exact G.weak (L := [some (.ref (wad Γ 108)), none, some (.int (x5 + (-1 : Int32)))]) ⟨rfl, rfl, trivial⟩ (ih _ _ hf)
set_option maxRecDepth 100000 in
theorem c_X12_mostUsed {Γ : WC} (hN : HN Γ) {Z : Nat} {M : Mem} {p0 : Int32} {rM : Int32 × Mem}  (hf : f_X12_mostUsed Z M p0 = some rM) : Ct Γ yX12_mostUsed cX12_mostUsed 3 (some .int) (rmL 4 0 0) [.ref (wad Γ 108), .int p0] M (some (.int rM.1)) rM.2 := by
  refine mkN hN.1 (own := RX12) rfl (by decide) (Nat.le_of_ble_eq_true rfl) (fun X C E => ?_)
  change G Γ X M 0 0 [some (.ref (wad Γ 108)), some (.int p0)] [] 0
  unfold f_X12_mostUsed at hf
  refine x_aload_n C rfl rfl (dkAt dk_X12_mostUsed 0 rfl) 1 rfl ?_
  refine x_iload_n C rfl rfl (dkAt dk_X12_mostUsed 1 rfl) 2 rfl ?_
  obtain ⟨v1, M2, h11, hf⟩ := cl_inv hf
  refine x_cVi C (c_X12_noBudget hN h11) mw_X12_noBudget ln_RX12_258 mi_X12_noBudget (hN.rc (ci := 12) sh108 rc12) (ro_of (by decide) (by decide) (by decide) (by decide)) rfl rfl (Nat.le_of_ble_eq_true rfl) (dkAt dk_X12_mostUsed 2 rfl) 5 rfl 0 0 rfl rfl ?_
  refine x_if_eq C 10 (dkAt dk_X12_mostUsed 3 rfl) 8 rfl (by decide) hf (fun hf => ?_) (fun hf => ?_)
  · refine x_aload_n C rfl rfl (dkAt dk_X12_mostUsed 6 rfl) 11 rfl ?_
    refine x_iload_n C rfl rfl (dkAt dk_X12_mostUsed 7 rfl) 12 rfl ?_
    obtain ⟨v3, M4, h10, hf⟩ := cl_inv hf
    refine x_cVv C (c_X12_laysMass hN h10) mw_X12_laysMass ln_RX12_303 mi_X12_laysMass (hN.rc (ci := 12) sh108 rc12) (ro_of (by decide) (by decide) (by decide) (by decide)) rfl rfl (Nat.le_of_ble_eq_true rfl) (dkAt dk_X12_mostUsed 8 rfl) 15 rfl 0 0 rfl rfl ?_
    refine x_sipush C (v := (495 : Int32)) (by decide) (dkAt dk_X12_mostUsed 9 rfl) 18 rfl ?_
    refine x_istore_n C (L1 := [some (.ref (wad Γ 108)), some (.int p0), some (.int (495 : Int32))]) (dkAt dk_X12_mostUsed 10 rfl) 19 rfl rfl (by decide) rfl ?_
    refine G.weak (L := [some (.ref (wad Γ 108)), none, some (.int (495 : Int32))]) ⟨rfl, rfl, trivial⟩ ?_
    refine l_X12_mostUsed_L19 hN C E Z _ _ hf
  · refine x_iconst C (v := (0 : Int32)) (by decide) (dkAt dk_X12_mostUsed 4 rfl) 9 rfl ?_
    exact x_iret C E hf (by decide) (by decide) (dkAt dk_X12_mostUsed 5 rfl)
def f_X12_laysAhead_L42 (Z : Nat) (x2 : Int32) (x4 : Int32) (k : Int64 → Mem → Option (Int64 × Mem)) : Nat → Int64 → Int32 → Mem → Option (Int64 × Mem)
  | 0, _, _, _ => none
  | n + 1, x9, x10, M11 => rdI M11 112 344 (0 : Int32) (fun v12 => (if v12 ≤ x10 then k x9 M11 else rdI M11 109 54 (1 : Int32) (fun v13 => (if v13 ≤ x2 then k x9 M11 else cl (f_X12_stepOf Z M11 x4 x10) (fun v14 M15 => rdL M15 119 36 (((6 : Int32) * (x2 + (1 : Int32))) + x10) (fun v16 => (if (v14.toInt64 * v16) ≤ x9 then f_X12_laysAhead_L42 Z x2 x4 k n x9 (x10 + (1 : Int32)) M15 else f_X12_laysAhead_L42 Z x2 x4 k n (v14.toInt64 * v16) (x10 + (1 : Int32)) M15)))))))
def f_X12_laysAhead_L13 (Z : Nat) (x2 : Int32) (k : Mem → Option (Int64 × Mem)) : Nat → Int32 → Mem → Option (Int64 × Mem)
  | 0, _, _ => none
  | n + 1, x4, M5 => rdI M5 112 344 (0 : Int32) (fun v6 => (if v6 ≤ x4 then k M5 else rdI M5 109 54 (1 : Int32) (fun v7 => jn (fun (t8 : Int64) => f_X12_laysAhead_L42 Z x2 x4 (fun (y18 : Int64) (M19 : Mem) => wrL M19 119 36 (((6 : Int32) * x2) + x4) y18 (fun M20 => f_X12_laysAhead_L13 Z x2 k n (x4 + (1 : Int32)) M20)) Z t8 (0 : Int32) M5) (fun j21 => (if x2 = v7 then j21 (1 : Int64) else j21 (0 : Int64))))))
def f_X12_laysAhead_L7 (Z : Nat) (k : Mem → Option (Int64 × Mem)) : Nat → Int32 → Mem → Option (Int64 × Mem)
  | 0, _, _ => none
  | n + 1, x2, M3 => (if x2 < 0 then k M3 else f_X12_laysAhead_L13 Z x2 (fun (M22 : Mem) => f_X12_laysAhead_L7 Z k n (x2 + (-1 : Int32)) M22) Z (0 : Int32) M3)
def f_X12_laysAhead (Z : Nat) (M : Mem)  : Option (Int64 × Mem) :=
  rdI M 109 54 (1 : Int32) (fun v1 => f_X12_laysAhead_L7 Z (fun (M23 : Mem) => rdI M23 109 54 (0 : Int32) (fun v24 => rdL M23 119 36 v24 (fun v25 => some (v25, M23)))) Z v1 M)
set_option maxRecDepth 100000 in
theorem l_X12_laysAhead_L42 {Γ : WC} {X : MX} (hN : HN Γ) (C : CX Γ X cX12_laysAhead 8 RX12 (some .long) (rmL 2 0 0)) {rM : Int64 × Mem} (E : EndN Γ X (some (.long rM.1)) rM.2 0 0) {Z : Nat} {x2 : Int32} {x4 : Int32} {k : Int64 → Mem → Option (Int64 × Mem)} (hk : ∀ (a3 : Int64) (Mx : Mem), k a3 Mx = some rM → G Γ X Mx 0 0 [some (.ref (wad Γ 108)), some (.int x2), some (.int x4), some (.long a3)] [] 108) : ∀ (n : Nat) (x9 : Int64) (x10 : Int32) (M11 : Mem), f_X12_laysAhead_L42 Z x2 x4 k n x9 x10 M11 = some rM → G Γ X M11 0 0 [some (.ref (wad Γ 108)), some (.int x2), some (.int x4), some (.long x9), none, some (.int x10)] [] 42 := by
  intro n
  induction n with
  | zero =>
    intro x9 x10 M11 hf
    have hf0 : (none : Option _) = some rM := hf
    cases hf0
  | succ n ih =>
    intro x9 x10 M11 hf
    rw [f_X12_laysAhead_L42] at hf
    refine x_iload C rfl (dkAt dk_X12_laysAhead 27 rfl) 44 rfl ?_
    refine x_aload_n C rfl rfl (dkAt dk_X12_laysAhead 28 rfl) 45 rfl ?_
    refine x_getS C lk_RX12_20 (hN.sh sh108) (hN.sr sr108_6) (dkAt dk_X12_laysAhead 29 rfl) 48 rfl ?_
    refine x_iconst C (v := (0 : Int32)) (by decide) (dkAt dk_X12_laysAhead 30 rfl) 49 rfl ?_
    refine x_iald C (hN.sh sh112) (dkAt dk_X12_laysAhead 31 rfl) 50 rfl hf (fun v12 hf => ?_)
    refine x_icmp_ge C 108 (dkAt dk_X12_laysAhead 32 rfl) 53 rfl (by decide) hf (fun hf => ?_) (fun hf => ?_)
    · exact G.weak (L := [some (.ref (wad Γ 108)), some (.int x2), some (.int x4), some (.long x9)]) ⟨rfl, rfl, rfl, rfl, trivial⟩ (hk _ _ hf)
    · refine x_iload_n C rfl rfl (dkAt dk_X12_laysAhead 33 rfl) 54 rfl ?_
      refine x_aload_n C rfl rfl (dkAt dk_X12_laysAhead 34 rfl) 55 rfl ?_
      refine x_getS C lk_RX12_7 (hN.sh sh108) (hN.sr sr108_2) (dkAt dk_X12_laysAhead 35 rfl) 58 rfl ?_
      refine x_iconst C (v := (1 : Int32)) (by decide) (dkAt dk_X12_laysAhead 36 rfl) 59 rfl ?_
      refine x_iald C (hN.sh sh109) (dkAt dk_X12_laysAhead 37 rfl) 60 rfl hf (fun v13 hf => ?_)
      refine x_icmp_ge C 108 (dkAt dk_X12_laysAhead 38 rfl) 63 rfl (by decide) hf (fun hf => ?_) (fun hf => ?_)
      · exact G.weak (L := [some (.ref (wad Γ 108)), some (.int x2), some (.int x4), some (.long x9)]) ⟨rfl, rfl, rfl, rfl, trivial⟩ (hk _ _ hf)
      · refine x_aload_n C rfl rfl (dkAt dk_X12_laysAhead 39 rfl) 64 rfl ?_
        refine x_iload_n C rfl rfl (dkAt dk_X12_laysAhead 40 rfl) 65 rfl ?_
        refine x_iload C rfl (dkAt dk_X12_laysAhead 41 rfl) 67 rfl ?_
        obtain ⟨v14, M15, h17, hf⟩ := cl_inv hf
        refine x_cVi C (c_X12_stepOf hN h17) mw_X12_stepOf ln_RX12_261 mi_X12_stepOf (hN.rc (ci := 12) sh108 rc12) (ro_of (by decide) (by decide) (by decide) (by decide)) rfl rfl (Nat.le_of_ble_eq_true rfl) (dkAt dk_X12_laysAhead 42 rfl) 70 rfl 0 0 rfl rfl ?_
        refine x_i2l C (dkAt dk_X12_laysAhead 43 rfl) 71 rfl ?_
        refine x_aload_n C rfl rfl (dkAt dk_X12_laysAhead 44 rfl) 72 rfl ?_
        refine x_getS C lk_RX12_46 (hN.sh sh108) (hN.sr sr108_24) (dkAt dk_X12_laysAhead 45 rfl) 75 rfl ?_
        refine x_bipush C (v := (6 : Int32)) (by decide) (dkAt dk_X12_laysAhead 46 rfl) 77 rfl ?_
        refine x_iload_n C rfl rfl (dkAt dk_X12_laysAhead 47 rfl) 78 rfl ?_
        refine x_iconst C (v := (1 : Int32)) (by decide) (dkAt dk_X12_laysAhead 48 rfl) 79 rfl ?_
        refine x_iadd C (dkAt dk_X12_laysAhead 49 rfl) 80 rfl ?_
        refine x_imul C (dkAt dk_X12_laysAhead 50 rfl) 81 rfl ?_
        refine x_iload C rfl (dkAt dk_X12_laysAhead 51 rfl) 83 rfl ?_
        refine x_iadd C (dkAt dk_X12_laysAhead 52 rfl) 84 rfl ?_
        refine x_lald C (hN.sh sh119) (dkAt dk_X12_laysAhead 53 rfl) 85 rfl hf (fun v16 hf => ?_)
        refine x_lmul C (dkAt dk_X12_laysAhead 54 rfl) 86 rfl ?_
        refine x_lstore C (L1 := [some (.ref (wad Γ 108)), some (.int x2), some (.int x4), some (.long x9), none, some (.int x10), some (.long (v14.toInt64 * v16))]) (dkAt dk_X12_laysAhead 55 rfl) 88 rfl (by decide) rfl ?_
        refine x_lload C rfl (dkAt dk_X12_laysAhead 56 rfl) 90 rfl ?_
        refine x_lload_n C rfl rfl (dkAt dk_X12_laysAhead 57 rfl) 91 rfl ?_
        refine x_lcmp_le C 100 (dkAt dk_X12_laysAhead 58 rfl) 95 rfl (dkAt dk_X12_laysAhead 59 rfl) (by decide) hf (fun hf => ?_) (fun hf => ?_)
        · refine x_lload_n C rfl rfl (dkAt dk_X12_laysAhead 62 rfl) 101 rfl ?_
          refine x_lstore_n C (L1 := [some (.ref (wad Γ 108)), some (.int x2), some (.int x4), some (.long x9), none, some (.int x10), some (.long (v14.toInt64 * v16))]) (dkAt dk_X12_laysAhead 63 rfl) 102 rfl rfl (by decide) rfl ?_
          refine x_iinc C (v := (x10 + (1 : Int32))) (L1 := [some (.ref (wad Γ 108)), some (.int x2), some (.int x4), some (.long x9), none, some (.int (x10 + (1 : Int32))), some (.long (v14.toInt64 * v16))]) (dkAt dk_X12_laysAhead 64 rfl) 105 rfl rfl rfl (by decide) rfl ?_
          refine x_goto C 42 (dkAt dk_X12_laysAhead 65 rfl) (by decide) ?_
          exact G.weak (L := [some (.ref (wad Γ 108)), some (.int x2), some (.int x4), some (.long x9), none, some (.int (x10 + (1 : Int32)))]) ⟨rfl, rfl, rfl, rfl, rfl, trivial⟩ (ih _ _ _ hf)
        · refine x_lload C rfl (dkAt dk_X12_laysAhead 60 rfl) 97 rfl ?_
          refine x_goto C 101 (dkAt dk_X12_laysAhead 61 rfl) (by decide) ?_
          refine x_lstore_n C (L1 := [some (.ref (wad Γ 108)), some (.int x2), some (.int x4), some (.long (v14.toInt64 * v16)), none, some (.int x10), some (.long (v14.toInt64 * v16))]) (dkAt dk_X12_laysAhead 63 rfl) 102 rfl rfl (by decide) rfl ?_
          refine x_iinc C (v := (x10 + (1 : Int32))) (L1 := [some (.ref (wad Γ 108)), some (.int x2), some (.int x4), some (.long (v14.toInt64 * v16)), none, some (.int (x10 + (1 : Int32))), some (.long (v14.toInt64 * v16))]) (dkAt dk_X12_laysAhead 64 rfl) 105 rfl rfl rfl (by decide) rfl ?_
          refine x_goto C 42 (dkAt dk_X12_laysAhead 65 rfl) (by decide) ?_
          exact G.weak (L := [some (.ref (wad Γ 108)), some (.int x2), some (.int x4), some (.long (v14.toInt64 * v16)), none, some (.int (x10 + (1 : Int32)))]) ⟨rfl, rfl, rfl, rfl, rfl, trivial⟩ (ih _ _ _ hf)
set_option maxRecDepth 100000 in
theorem l_X12_laysAhead_L13 {Γ : WC} {X : MX} (hN : HN Γ) (C : CX Γ X cX12_laysAhead 8 RX12 (some .long) (rmL 2 0 0)) {rM : Int64 × Mem} (E : EndN Γ X (some (.long rM.1)) rM.2 0 0) {Z : Nat} {x2 : Int32} {k : Mem → Option (Int64 × Mem)} (hk : ∀  (Mx : Mem), k Mx = some rM → G Γ X Mx 0 0 [some (.ref (wad Γ 108)), some (.int x2)] [] 126) : ∀ (n : Nat) (x4 : Int32) (M5 : Mem), f_X12_laysAhead_L13 Z x2 k n x4 M5 = some rM → G Γ X M5 0 0 [some (.ref (wad Γ 108)), some (.int x2), some (.int x4)] [] 13 := by
  intro n
  induction n with
  | zero =>
    intro x4 M5 hf
    have hf0 : (none : Option _) = some rM := hf
    cases hf0
  | succ n ih =>
    intro x4 M5 hf
    rw [f_X12_laysAhead_L13] at hf
    refine x_iload_n C rfl rfl (dkAt dk_X12_laysAhead 9 rfl) 14 rfl ?_
    refine x_aload_n C rfl rfl (dkAt dk_X12_laysAhead 10 rfl) 15 rfl ?_
    refine x_getS C lk_RX12_20 (hN.sh sh108) (hN.sr sr108_6) (dkAt dk_X12_laysAhead 11 rfl) 18 rfl ?_
    refine x_iconst C (v := (0 : Int32)) (by decide) (dkAt dk_X12_laysAhead 12 rfl) 19 rfl ?_
    refine x_iald C (hN.sh sh112) (dkAt dk_X12_laysAhead 13 rfl) 20 rfl hf (fun v6 hf => ?_)
    refine x_icmp_ge C 126 (dkAt dk_X12_laysAhead 14 rfl) 23 rfl (by decide) hf (fun hf => ?_) (fun hf => ?_)
    · exact G.weak (L := [some (.ref (wad Γ 108)), some (.int x2)]) ⟨rfl, rfl, trivial⟩ (hk _ hf)
    · refine x_iload_n C rfl rfl (dkAt dk_X12_laysAhead 15 rfl) 24 rfl ?_
      refine x_aload_n C rfl rfl (dkAt dk_X12_laysAhead 16 rfl) 25 rfl ?_
      refine x_getS C lk_RX12_7 (hN.sh sh108) (hN.sr sr108_2) (dkAt dk_X12_laysAhead 17 rfl) 28 rfl ?_
      refine x_iconst C (v := (1 : Int32)) (by decide) (dkAt dk_X12_laysAhead 18 rfl) 29 rfl ?_
      refine x_iald C (hN.sh sh109) (dkAt dk_X12_laysAhead 19 rfl) 30 rfl hf (fun v7 hf => ?_)
      refine x_join hf (fun t8 => G Γ X M5 0 0 [some (.ref (wad Γ 108)), some (.int x2), some (.int x4)] [.long t8] 38) (fun t8 hf => ?_) (fun j21 hj21 hf => ?_)
      · refine x_lstore_n C (L1 := [some (.ref (wad Γ 108)), some (.int x2), some (.int x4), some (.long t8)]) (dkAt dk_X12_laysAhead 24 rfl) 39 rfl rfl (by decide) rfl ?_
        refine x_iconst C (v := (0 : Int32)) (by decide) (dkAt dk_X12_laysAhead 25 rfl) 40 rfl ?_
        refine x_istore C (L1 := [some (.ref (wad Γ 108)), some (.int x2), some (.int x4), some (.long t8), none, some (.int (0 : Int32))]) (dkAt dk_X12_laysAhead 26 rfl) 42 rfl (by decide) rfl ?_
        refine G.weak (L := [some (.ref (wad Γ 108)), some (.int x2), some (.int x4), some (.long t8), none, some (.int (0 : Int32))]) ⟨rfl, rfl, rfl, rfl, rfl, trivial⟩ ?_
        refine l_X12_laysAhead_L42 hN C E ?_ Z _ _ _ hf
        intro y18 M19 hf
        refine x_aload_n C rfl rfl (dkAt dk_X12_laysAhead 66 rfl) 109 rfl ?_
        refine x_getS C lk_RX12_46 (hN.sh sh108) (hN.sr sr108_24) (dkAt dk_X12_laysAhead 67 rfl) 112 rfl ?_
        refine x_bipush C (v := (6 : Int32)) (by decide) (dkAt dk_X12_laysAhead 68 rfl) 114 rfl ?_
        refine x_iload_n C rfl rfl (dkAt dk_X12_laysAhead 69 rfl) 115 rfl ?_
        refine x_imul C (dkAt dk_X12_laysAhead 70 rfl) 116 rfl ?_
        refine x_iload_n C rfl rfl (dkAt dk_X12_laysAhead 71 rfl) 117 rfl ?_
        refine x_iadd C (dkAt dk_X12_laysAhead 72 rfl) 118 rfl ?_
        refine x_lload_n C rfl rfl (dkAt dk_X12_laysAhead 73 rfl) 119 rfl ?_
        refine x_last C (hN.sh sh119) (dkAt dk_X12_laysAhead 74 rfl) 120 rfl hf (fun M20 hf => ?_)
        refine x_iinc C (v := (x4 + (1 : Int32))) (L1 := [some (.ref (wad Γ 108)), some (.int x2), some (.int (x4 + (1 : Int32))), some (.long y18)]) (dkAt dk_X12_laysAhead 75 rfl) 123 rfl rfl rfl (by decide) rfl ?_
        refine x_goto C 13 (dkAt dk_X12_laysAhead 76 rfl) (by decide) ?_
        exact G.weak (L := [some (.ref (wad Γ 108)), some (.int x2), some (.int (x4 + (1 : Int32)))]) ⟨rfl, rfl, rfl, trivial⟩ (ih _ _ hf)
      · refine x_icmp_ne C 37 (dkAt dk_X12_laysAhead 20 rfl) 33 rfl (by decide) hf (fun hf => ?_) (fun hf => ?_)
        · refine x_lconst C (v := (0 : Int64)) (by decide) (dkAt dk_X12_laysAhead 23 rfl) 38 rfl ?_
          exact G.weak (L := [some (.ref (wad Γ 108)), some (.int x2), some (.int x4)]) ⟨rfl, rfl, rfl, trivial⟩ (hj21 _ hf)
        · refine x_lconst C (v := (1 : Int64)) (by decide) (dkAt dk_X12_laysAhead 21 rfl) 34 rfl ?_
          refine x_goto C 38 (dkAt dk_X12_laysAhead 22 rfl) (by decide) ?_
          exact G.weak (L := [some (.ref (wad Γ 108)), some (.int x2), some (.int x4)]) ⟨rfl, rfl, rfl, trivial⟩ (hj21 _ hf)
set_option maxRecDepth 100000 in
theorem l_X12_laysAhead_L7 {Γ : WC} {X : MX} (hN : HN Γ) (C : CX Γ X cX12_laysAhead 8 RX12 (some .long) (rmL 2 0 0)) {rM : Int64 × Mem} (E : EndN Γ X (some (.long rM.1)) rM.2 0 0) {Z : Nat} {k : Mem → Option (Int64 × Mem)} (hk : ∀  (Mx : Mem), k Mx = some rM → G Γ X Mx 0 0 [some (.ref (wad Γ 108))] [] 132) : ∀ (n : Nat) (x2 : Int32) (M3 : Mem), f_X12_laysAhead_L7 Z k n x2 M3 = some rM → G Γ X M3 0 0 [some (.ref (wad Γ 108)), some (.int x2)] [] 7 := by
  intro n
  induction n with
  | zero =>
    intro x2 M3 hf
    have hf0 : (none : Option _) = some rM := hf
    cases hf0
  | succ n ih =>
    intro x2 M3 hf
    rw [f_X12_laysAhead_L7] at hf
    refine x_iload_n C rfl rfl (dkAt dk_X12_laysAhead 5 rfl) 8 rfl ?_
    refine x_if_lt C 132 (dkAt dk_X12_laysAhead 6 rfl) 11 rfl (by decide) hf (fun hf => ?_) (fun hf => ?_)
    · exact G.weak (L := [some (.ref (wad Γ 108))]) ⟨rfl, trivial⟩ (hk _ hf)
    · refine x_iconst C (v := (0 : Int32)) (by decide) (dkAt dk_X12_laysAhead 7 rfl) 12 rfl ?_
      refine x_istore_n C (L1 := [some (.ref (wad Γ 108)), some (.int x2), some (.int (0 : Int32))]) (dkAt dk_X12_laysAhead 8 rfl) 13 rfl rfl (by decide) rfl ?_
      refine G.weak (L := [some (.ref (wad Γ 108)), some (.int x2), some (.int (0 : Int32))]) ⟨rfl, rfl, rfl, trivial⟩ ?_
      refine l_X12_laysAhead_L13 hN C E ?_ Z _ _ hf
      intro M22 hf
      refine x_iinc C (v := (x2 + (-1 : Int32))) (L1 := [some (.ref (wad Γ 108)), some (.int (x2 + (-1 : Int32)))]) (dkAt dk_X12_laysAhead 77 rfl) 129 rfl rfl rfl (by decide) rfl ?_
      refine x_goto C 7 (dkAt dk_X12_laysAhead 78 rfl) (by decide) ?_
      exact G.weak (L := [some (.ref (wad Γ 108)), some (.int (x2 + (-1 : Int32)))]) ⟨rfl, rfl, trivial⟩ (ih _ _ hf)
set_option maxRecDepth 100000 in
theorem c_X12_laysAhead {Γ : WC} (hN : HN Γ) {Z : Nat} {M : Mem}  {rM : Int64 × Mem}  (hf : f_X12_laysAhead Z M  = some rM) : Ct Γ yX12_laysAhead cX12_laysAhead 8 (some .long) (rmL 2 0 0) [.ref (wad Γ 108)] M (some (.long rM.1)) rM.2 := by
  refine mkN hN.1 (own := RX12) rfl (by decide) (Nat.le_of_ble_eq_true rfl) (fun X C E => ?_)
  change G Γ X M 0 0 [some (.ref (wad Γ 108))] [] 0
  unfold f_X12_laysAhead at hf
  refine x_aload_n C rfl rfl (dkAt dk_X12_laysAhead 0 rfl) 1 rfl ?_
  refine x_getS C lk_RX12_7 (hN.sh sh108) (hN.sr sr108_2) (dkAt dk_X12_laysAhead 1 rfl) 4 rfl ?_
  refine x_iconst C (v := (1 : Int32)) (by decide) (dkAt dk_X12_laysAhead 2 rfl) 5 rfl ?_
  refine x_iald C (hN.sh sh109) (dkAt dk_X12_laysAhead 3 rfl) 6 rfl hf (fun v1 hf => ?_)
  refine x_istore_n C (L1 := [some (.ref (wad Γ 108)), some (.int v1)]) (dkAt dk_X12_laysAhead 4 rfl) 7 rfl rfl (by decide) rfl ?_
  refine G.weak (L := [some (.ref (wad Γ 108)), some (.int v1)]) ⟨rfl, rfl, trivial⟩ ?_
  refine l_X12_laysAhead_L7 hN C E ?_ Z _ _ hf
  intro M23 hf
  refine x_aload_n C rfl rfl (dkAt dk_X12_laysAhead 79 rfl) 133 rfl ?_
  refine x_getS C lk_RX12_46 (hN.sh sh108) (hN.sr sr108_24) (dkAt dk_X12_laysAhead 80 rfl) 136 rfl ?_
  refine x_aload_n C rfl rfl (dkAt dk_X12_laysAhead 81 rfl) 137 rfl ?_
  refine x_getS C lk_RX12_7 (hN.sh sh108) (hN.sr sr108_2) (dkAt dk_X12_laysAhead 82 rfl) 140 rfl ?_
  refine x_iconst C (v := (0 : Int32)) (by decide) (dkAt dk_X12_laysAhead 83 rfl) 141 rfl ?_
  refine x_iald C (hN.sh sh109) (dkAt dk_X12_laysAhead 84 rfl) 142 rfl hf (fun v24 hf => ?_)
  refine x_lald C (hN.sh sh119) (dkAt dk_X12_laysAhead 85 rfl) 143 rfl hf (fun v25 hf => ?_)
  exact x_lret C E hf (by decide) (by decide) (dkAt dk_X12_laysAhead 86 rfl)
def f_X12_likeliest (Z : Nat) (M : Mem)  : Option (Int64 × Mem) :=
  cl (f_X12_noChain Z M) (fun v1 M2 => (if v1 = 0 then cl (f_X12_laysAhead Z M2) (fun v3 M4 => some (v3, M4)) else some ((0 : Int64), M2)))
set_option maxRecDepth 100000 in
theorem c_X12_likeliest {Γ : WC} (hN : HN Γ) {Z : Nat} {M : Mem}  {rM : Int64 × Mem}  (hf : f_X12_likeliest Z M  = some rM) : Ct Γ yX12_likeliest cX12_likeliest 1 (some .long) (rmL 3 0 0) [.ref (wad Γ 108)] M (some (.long rM.1)) rM.2 := by
  refine mkN hN.1 (own := RX12) rfl (by decide) (Nat.le_of_ble_eq_true rfl) (fun X C E => ?_)
  change G Γ X M 0 0 [some (.ref (wad Γ 108))] [] 0
  unfold f_X12_likeliest at hf
  refine x_aload_n C rfl rfl (dkAt dk_X12_likeliest 0 rfl) 1 rfl ?_
  obtain ⟨v1, M2, h6, hf⟩ := cl_inv hf
  refine x_cVi C (c_X12_noChain hN h6) mw_X12_noChain ln_RX12_222 mi_X12_noChain (hN.rc (ci := 12) sh108 rc12) (ro_of (by decide) (by decide) (by decide) (by decide)) rfl rfl (Nat.le_of_ble_eq_true rfl) (dkAt dk_X12_likeliest 1 rfl) 4 rfl 0 0 rfl rfl ?_
  refine x_if_eq C 11 (dkAt dk_X12_likeliest 2 rfl) 7 rfl (by decide) hf (fun hf => ?_) (fun hf => ?_)
  · refine x_aload_n C rfl rfl (dkAt dk_X12_likeliest 5 rfl) 12 rfl ?_
    obtain ⟨v3, M4, h5, hf⟩ := cl_inv hf
    refine x_cVl C (c_X12_laysAhead hN h5) mw_X12_laysAhead ln_RX12_309 mi_X12_laysAhead (hN.rc (ci := 12) sh108 rc12) (ro_of (by decide) (by decide) (by decide) (by decide)) rfl rfl (Nat.le_of_ble_eq_true rfl) (dkAt dk_X12_likeliest 6 rfl) 15 rfl 0 0 rfl rfl ?_
    exact x_lret C E hf (by decide) (by decide) (dkAt dk_X12_likeliest 7 rfl)
  · refine x_lconst C (v := (0 : Int64)) (by decide) (dkAt dk_X12_likeliest 3 rfl) 8 rfl ?_
    refine x_goto C 15 (dkAt dk_X12_likeliest 4 rfl) (by decide) ?_
    exact x_lret C E hf (by decide) (by decide) (dkAt dk_X12_likeliest 7 rfl)
def f_X12_likeliestAt_L52 (Z : Nat) (p0 : Int32) (x11 : Int32) (x12 : Int32) (k : Int32 → Mem → Option (Int32 × Mem)) : Nat → Int32 → Mem → Option (Int32 × Mem)
  | 0, _, _ => none
  | n + 1, x14, M15 => cl (f_X12_stepOf Z M15 x11 x14) (fun v16 M17 => rdL M17 119 36 (((6 : Int32) * (x12 + (1 : Int32))) + x14) (fun v18 => rdL M17 119 36 (((6 : Int32) * x12) + x11) (fun v19 => (if (v16.toInt64 * v18) = v19 then k x14 M17 else f_X12_likeliestAt_L52 Z p0 x11 x12 k n (x14 + (1 : Int32)) M17))))
def f_X12_likeliestAt_L44 (Z : Nat) (p0 : Int32) : Nat → Int32 → Int32 → Mem → Option (Int32 × Mem)
  | 0, _, _, _ => none
  | n + 1, x11, x12, M13 => (if p0 ≤ x12 then some (x11, M13) else f_X12_likeliestAt_L52 Z p0 x11 x12 (fun (y21 : Int32) (M22 : Mem) => f_X12_likeliestAt_L44 Z p0 n y21 (x12 + (1 : Int32)) M22) Z (0 : Int32) M13)
def f_X12_likeliestAt (Z : Nat) (M : Mem) (p0 : Int32) : Option (Int32 × Mem) :=
  cl (f_X12_noChain Z M) (fun v1 M2 => (if v1 = 0 then cl (f_X12_isTime Z M2 p0) (fun v3 M4 => jn (fun (t5 : Int32) => cl (f_X12_refuse Z M4 t5 (2 : Int32)) (fun v6 M7 => (if v6 = 0 then cl (f_X12_laysAhead Z M7) (fun v8 M9 => rdI M9 109 54 (0 : Int32) (fun v10 => f_X12_likeliestAt_L44 Z p0 Z v10 (0 : Int32) M9)) else some ((0 : Int32), M7)))) (fun j25 => (if v3 = 0 then j25 (1 : Int32) else j25 (0 : Int32)))) else some ((0 : Int32), M2)))
set_option maxRecDepth 100000 in
theorem l_X12_likeliestAt_L52 {Γ : WC} {X : MX} (hN : HN Γ) (C : CX Γ X cX12_likeliestAt 5 RX12 (some .int) (rmL 3 0 0)) {rM : Int32 × Mem} (E : EndN Γ X (some (.int rM.1)) rM.2 0 0) {Z : Nat} {p0 : Int32} {x11 : Int32} {x12 : Int32} {k : Int32 → Mem → Option (Int32 × Mem)} (hk : ∀ (a4 : Int32) (Mx : Mem), k a4 Mx = some rM → G Γ X Mx 0 0 [some (.ref (wad Γ 108)), some (.int p0), none, some (.int x12), some (.int a4)] [] 96) : ∀ (n : Nat) (x14 : Int32) (M15 : Mem), f_X12_likeliestAt_L52 Z p0 x11 x12 k n x14 M15 = some rM → G Γ X M15 0 0 [some (.ref (wad Γ 108)), some (.int p0), some (.int x11), some (.int x12), some (.int x14)] [] 52 := by
  intro n
  induction n with
  | zero =>
    intro x14 M15 hf
    have hf0 : (none : Option _) = some rM := hf
    cases hf0
  | succ n ih =>
    intro x14 M15 hf
    rw [f_X12_likeliestAt_L52] at hf
    refine x_aload_n C rfl rfl (dkAt dk_X12_likeliestAt 31 rfl) 53 rfl ?_
    refine x_iload_n C rfl rfl (dkAt dk_X12_likeliestAt 32 rfl) 54 rfl ?_
    refine x_iload C rfl (dkAt dk_X12_likeliestAt 33 rfl) 56 rfl ?_
    obtain ⟨v16, M17, h20, hf⟩ := cl_inv hf
    refine x_cVi C (c_X12_stepOf hN h20) mw_X12_stepOf ln_RX12_261 mi_X12_stepOf (hN.rc (ci := 12) sh108 rc12) (ro_of (by decide) (by decide) (by decide) (by decide)) rfl rfl (Nat.le_of_ble_eq_true rfl) (dkAt dk_X12_likeliestAt 34 rfl) 59 rfl 0 0 rfl rfl ?_
    refine x_i2l C (dkAt dk_X12_likeliestAt 35 rfl) 60 rfl ?_
    refine x_aload_n C rfl rfl (dkAt dk_X12_likeliestAt 36 rfl) 61 rfl ?_
    refine x_getS C lk_RX12_46 (hN.sh sh108) (hN.sr sr108_24) (dkAt dk_X12_likeliestAt 37 rfl) 64 rfl ?_
    refine x_bipush C (v := (6 : Int32)) (by decide) (dkAt dk_X12_likeliestAt 38 rfl) 66 rfl ?_
    refine x_iload_n C rfl rfl (dkAt dk_X12_likeliestAt 39 rfl) 67 rfl ?_
    refine x_iconst C (v := (1 : Int32)) (by decide) (dkAt dk_X12_likeliestAt 40 rfl) 68 rfl ?_
    refine x_iadd C (dkAt dk_X12_likeliestAt 41 rfl) 69 rfl ?_
    refine x_imul C (dkAt dk_X12_likeliestAt 42 rfl) 70 rfl ?_
    refine x_iload C rfl (dkAt dk_X12_likeliestAt 43 rfl) 72 rfl ?_
    refine x_iadd C (dkAt dk_X12_likeliestAt 44 rfl) 73 rfl ?_
    refine x_lald C (hN.sh sh119) (dkAt dk_X12_likeliestAt 45 rfl) 74 rfl hf (fun v18 hf => ?_)
    refine x_lmul C (dkAt dk_X12_likeliestAt 46 rfl) 75 rfl ?_
    refine x_aload_n C rfl rfl (dkAt dk_X12_likeliestAt 47 rfl) 76 rfl ?_
    refine x_getS C lk_RX12_46 (hN.sh sh108) (hN.sr sr108_24) (dkAt dk_X12_likeliestAt 48 rfl) 79 rfl ?_
    refine x_bipush C (v := (6 : Int32)) (by decide) (dkAt dk_X12_likeliestAt 49 rfl) 81 rfl ?_
    refine x_iload_n C rfl rfl (dkAt dk_X12_likeliestAt 50 rfl) 82 rfl ?_
    refine x_imul C (dkAt dk_X12_likeliestAt 51 rfl) 83 rfl ?_
    refine x_iload_n C rfl rfl (dkAt dk_X12_likeliestAt 52 rfl) 84 rfl ?_
    refine x_iadd C (dkAt dk_X12_likeliestAt 53 rfl) 85 rfl ?_
    refine x_lald C (hN.sh sh119) (dkAt dk_X12_likeliestAt 54 rfl) 86 rfl hf (fun v19 hf => ?_)
    refine x_lcmp_eq C 96 (dkAt dk_X12_likeliestAt 55 rfl) 90 rfl (dkAt dk_X12_likeliestAt 56 rfl) (by decide) hf (fun hf => ?_) (fun hf => ?_)
    · exact G.weak (L := [some (.ref (wad Γ 108)), some (.int p0), none, some (.int x12), some (.int x14)]) ⟨rfl, rfl, rfl, rfl, trivial⟩ (hk _ _ hf)
    · refine x_iinc C (v := (x14 + (1 : Int32))) (L1 := [some (.ref (wad Γ 108)), some (.int p0), some (.int x11), some (.int x12), some (.int (x14 + (1 : Int32)))]) (dkAt dk_X12_likeliestAt 57 rfl) 93 rfl rfl rfl (by decide) rfl ?_
      refine x_goto C 52 (dkAt dk_X12_likeliestAt 58 rfl) (by decide) ?_
      exact G.weak (L := [some (.ref (wad Γ 108)), some (.int p0), some (.int x11), some (.int x12), some (.int (x14 + (1 : Int32)))]) ⟨rfl, rfl, rfl, rfl, rfl, trivial⟩ (ih _ _ hf)
set_option maxRecDepth 100000 in
theorem l_X12_likeliestAt_L44 {Γ : WC} {X : MX} (hN : HN Γ) (C : CX Γ X cX12_likeliestAt 5 RX12 (some .int) (rmL 3 0 0)) {rM : Int32 × Mem} (E : EndN Γ X (some (.int rM.1)) rM.2 0 0) {Z : Nat} {p0 : Int32} : ∀ (n : Nat) (x11 : Int32) (x12 : Int32) (M13 : Mem), f_X12_likeliestAt_L44 Z p0 n x11 x12 M13 = some rM → G Γ X M13 0 0 [some (.ref (wad Γ 108)), some (.int p0), some (.int x11), some (.int x12)] [] 44 := by
  intro n
  induction n with
  | zero =>
    intro x11 x12 M13 hf
    have hf0 : (none : Option _) = some rM := hf
    cases hf0
  | succ n ih =>
    intro x11 x12 M13 hf
    rw [f_X12_likeliestAt_L44] at hf
    refine x_iload_n C rfl rfl (dkAt dk_X12_likeliestAt 26 rfl) 45 rfl ?_
    refine x_iload_n C rfl rfl (dkAt dk_X12_likeliestAt 27 rfl) 46 rfl ?_
    refine x_icmp_ge C 105 (dkAt dk_X12_likeliestAt 28 rfl) 49 rfl (by decide) hf (fun hf => ?_) (fun hf => ?_)
    · refine x_iload_n C rfl rfl (dkAt dk_X12_likeliestAt 63 rfl) 106 rfl ?_
      exact x_iret C E hf (by decide) (by decide) (dkAt dk_X12_likeliestAt 64 rfl)
    · refine x_iconst C (v := (0 : Int32)) (by decide) (dkAt dk_X12_likeliestAt 29 rfl) 50 rfl ?_
      refine x_istore C (L1 := [some (.ref (wad Γ 108)), some (.int p0), some (.int x11), some (.int x12), some (.int (0 : Int32))]) (dkAt dk_X12_likeliestAt 30 rfl) 52 rfl (by decide) rfl ?_
      refine G.weak (L := [some (.ref (wad Γ 108)), some (.int p0), some (.int x11), some (.int x12), some (.int (0 : Int32))]) ⟨rfl, rfl, rfl, rfl, rfl, trivial⟩ ?_
      refine l_X12_likeliestAt_L52 hN C E ?_ Z _ _ hf
      intro y21 M22 hf
      refine x_iload C rfl (dkAt dk_X12_likeliestAt 59 rfl) 98 rfl ?_
      refine x_istore_n C (L1 := [some (.ref (wad Γ 108)), some (.int p0), some (.int y21), some (.int x12), some (.int y21)]) (dkAt dk_X12_likeliestAt 60 rfl) 99 rfl rfl (by decide) rfl ?_
      refine x_iinc C (v := (x12 + (1 : Int32))) (L1 := [some (.ref (wad Γ 108)), some (.int p0), some (.int y21), some (.int (x12 + (1 : Int32))), some (.int y21)]) (dkAt dk_X12_likeliestAt 61 rfl) 102 rfl rfl rfl (by decide) rfl ?_
      refine x_goto C 44 (dkAt dk_X12_likeliestAt 62 rfl) (by decide) ?_
      exact G.weak (L := [some (.ref (wad Γ 108)), some (.int p0), some (.int y21), some (.int (x12 + (1 : Int32)))]) ⟨rfl, rfl, rfl, rfl, trivial⟩ (ih _ _ _ hf)
set_option maxRecDepth 100000 in
theorem c_X12_likeliestAt {Γ : WC} (hN : HN Γ) {Z : Nat} {M : Mem} {p0 : Int32} {rM : Int32 × Mem}  (hf : f_X12_likeliestAt Z M p0 = some rM) : Ct Γ yX12_likeliestAt cX12_likeliestAt 5 (some .int) (rmL 3 0 0) [.ref (wad Γ 108), .int p0] M (some (.int rM.1)) rM.2 := by
  refine mkN hN.1 (own := RX12) rfl (by decide) (Nat.le_of_ble_eq_true rfl) (fun X C E => ?_)
  change G Γ X M 0 0 [some (.ref (wad Γ 108)), some (.int p0)] [] 0
  unfold f_X12_likeliestAt at hf
  refine x_aload_n C rfl rfl (dkAt dk_X12_likeliestAt 0 rfl) 1 rfl ?_
  obtain ⟨v1, M2, h27, hf⟩ := cl_inv hf
  refine x_cVi C (c_X12_noChain hN h27) mw_X12_noChain ln_RX12_222 mi_X12_noChain (hN.rc (ci := 12) sh108 rc12) (ro_of (by decide) (by decide) (by decide) (by decide)) rfl rfl (Nat.le_of_ble_eq_true rfl) (dkAt dk_X12_likeliestAt 1 rfl) 4 rfl 0 0 rfl rfl ?_
  refine x_if_ne C 28 (dkAt dk_X12_likeliestAt 2 rfl) 7 rfl (by decide) hf (fun hf => ?_) (fun hf => ?_)
  · refine x_iconst C (v := (0 : Int32)) (by decide) (dkAt dk_X12_likeliestAt 14 rfl) 29 rfl ?_
    exact x_iret C E hf (by decide) (by decide) (dkAt dk_X12_likeliestAt 15 rfl)
  · refine x_aload_n C rfl rfl (dkAt dk_X12_likeliestAt 3 rfl) 8 rfl ?_
    refine x_aload_n C rfl rfl (dkAt dk_X12_likeliestAt 4 rfl) 9 rfl ?_
    refine x_iload_n C rfl rfl (dkAt dk_X12_likeliestAt 5 rfl) 10 rfl ?_
    obtain ⟨v3, M4, h26, hf⟩ := cl_inv hf
    refine x_cVi C (c_X12_isTime hN h26) mw_X12_isTime ln_RX12_267 mi_X12_isTime (hN.rc (ci := 12) sh108 rc12) (ro_of (by decide) (by decide) (by decide) (by decide)) rfl rfl (Nat.le_of_ble_eq_true rfl) (dkAt dk_X12_likeliestAt 6 rfl) 13 rfl 0 0 rfl rfl ?_
    refine x_join hf (fun t5 => G Γ X M4 0 0 [some (.ref (wad Γ 108)), some (.int p0)] [.int t5, .ref (wad Γ 108)] 21) (fun t5 hf => ?_) (fun j25 hj25 hf => ?_)
    · refine x_iconst C (v := (2 : Int32)) (by decide) (dkAt dk_X12_likeliestAt 11 rfl) 22 rfl ?_
      obtain ⟨v6, M7, h24, hf⟩ := cl_inv hf
      refine x_cVi C (c_X12_refuse hN h24) mw_X12_refuse ln_RX12_68 mi_X12_refuse (hN.rc (ci := 12) sh108 rc12) (ro_of (by decide) (by decide) (by decide) (by decide)) rfl rfl (Nat.le_of_ble_eq_true rfl) (dkAt dk_X12_likeliestAt 12 rfl) 25 rfl 0 0 rfl rfl ?_
      refine x_if_eq C 30 (dkAt dk_X12_likeliestAt 13 rfl) 28 rfl (by decide) hf (fun hf => ?_) (fun hf => ?_)
      · refine x_aload_n C rfl rfl (dkAt dk_X12_likeliestAt 16 rfl) 31 rfl ?_
        obtain ⟨v8, M9, h23, hf⟩ := cl_inv hf
        refine x_cVl C (c_X12_laysAhead hN h23) mw_X12_laysAhead ln_RX12_309 mi_X12_laysAhead (hN.rc (ci := 12) sh108 rc12) (ro_of (by decide) (by decide) (by decide) (by decide)) rfl rfl (Nat.le_of_ble_eq_true rfl) (dkAt dk_X12_likeliestAt 17 rfl) 34 rfl 0 0 rfl rfl ?_
        refine x_pop2 C rfl (dkAt dk_X12_likeliestAt 18 rfl) 35 rfl ?_
        refine x_aload_n C rfl rfl (dkAt dk_X12_likeliestAt 19 rfl) 36 rfl ?_
        refine x_getS C lk_RX12_7 (hN.sh sh108) (hN.sr sr108_2) (dkAt dk_X12_likeliestAt 20 rfl) 39 rfl ?_
        refine x_iconst C (v := (0 : Int32)) (by decide) (dkAt dk_X12_likeliestAt 21 rfl) 40 rfl ?_
        refine x_iald C (hN.sh sh109) (dkAt dk_X12_likeliestAt 22 rfl) 41 rfl hf (fun v10 hf => ?_)
        refine x_istore_n C (L1 := [some (.ref (wad Γ 108)), some (.int p0), some (.int v10)]) (dkAt dk_X12_likeliestAt 23 rfl) 42 rfl rfl (by decide) rfl ?_
        refine x_iconst C (v := (0 : Int32)) (by decide) (dkAt dk_X12_likeliestAt 24 rfl) 43 rfl ?_
        refine x_istore_n C (L1 := [some (.ref (wad Γ 108)), some (.int p0), some (.int v10), some (.int (0 : Int32))]) (dkAt dk_X12_likeliestAt 25 rfl) 44 rfl rfl (by decide) rfl ?_
        refine G.weak (L := [some (.ref (wad Γ 108)), some (.int p0), some (.int v10), some (.int (0 : Int32))]) ⟨rfl, rfl, rfl, rfl, trivial⟩ ?_
        refine l_X12_likeliestAt_L44 hN C E Z _ _ _ hf
      · refine x_iconst C (v := (0 : Int32)) (by decide) (dkAt dk_X12_likeliestAt 14 rfl) 29 rfl ?_
        exact x_iret C E hf (by decide) (by decide) (dkAt dk_X12_likeliestAt 15 rfl)
    · refine x_if_ne C 20 (dkAt dk_X12_likeliestAt 7 rfl) 16 rfl (by decide) hf (fun hf => ?_) (fun hf => ?_)
      · refine x_iconst C (v := (0 : Int32)) (by decide) (dkAt dk_X12_likeliestAt 10 rfl) 21 rfl ?_
        exact G.weak (L := [some (.ref (wad Γ 108)), some (.int p0)]) ⟨rfl, rfl, trivial⟩ (hj25 _ hf)
      · refine x_iconst C (v := (1 : Int32)) (by decide) (dkAt dk_X12_likeliestAt 8 rfl) 17 rfl ?_
        refine x_goto C 21 (dkAt dk_X12_likeliestAt 9 rfl) (by decide) ?_
        exact G.weak (L := [some (.ref (wad Γ 108)), some (.int p0)]) ⟨rfl, rfl, trivial⟩ (hj25 _ hf)
def f_X12_worthOf_L21 (Z : Nat) (p0 : Int32) (p1 : Int32) (p2 : Int32) : Nat → Int64 → Int32 → Mem → Option (Int64 × Mem)
  | 0, _, _, _ => none
  | n + 1, x5, x6, M7 => rdI M7 112 344 (0 : Int32) (fun v8 => (if v8 ≤ x6 then some (x5, M7) else cl (f_X12_percentBy Z M7 p0 p1 x6) (fun v9 M10 => rdL M10 120 36 (((6 : Int32) * (p2 - (1 : Int32))) + x6) (fun v11 => f_X12_worthOf_L21 Z p0 p1 p2 n (x5 + (v9.toInt64 * v11)) (x6 + (1 : Int32)) M10))))
def f_X12_worthOf (Z : Nat) (M : Mem) (p0 : Int32) (p1 : Int32) (p2 : Int32) : Option (Int64 × Mem) :=
  cl (f_X12_gainBy Z M p0 p1) (fun v1 M2 => cl (f_X12_power Z M2 (100 : Int32) (p2 - (1 : Int32))) (fun v3 M4 => f_X12_worthOf_L21 Z p0 p1 p2 Z (v1.toInt64 * v3) (0 : Int32) M4))
set_option maxRecDepth 100000 in
theorem l_X12_worthOf_L21 {Γ : WC} {X : MX} (hN : HN Γ) (C : CX Γ X cX12_worthOf 7 RX12 (some .long) (rmL 1 0 0)) {rM : Int64 × Mem} (E : EndN Γ X (some (.long rM.1)) rM.2 0 0) {Z : Nat} {p0 : Int32} {p1 : Int32} {p2 : Int32} : ∀ (n : Nat) (x5 : Int64) (x6 : Int32) (M7 : Mem), f_X12_worthOf_L21 Z p0 p1 p2 n x5 x6 M7 = some rM → G Γ X M7 0 0 [some (.ref (wad Γ 108)), some (.int p0), some (.int p1), some (.int p2), some (.long x5), none, some (.int x6)] [] 21 := by
  intro n
  induction n with
  | zero =>
    intro x5 x6 M7 hf
    have hf0 : (none : Option _) = some rM := hf
    cases hf0
  | succ n ih =>
    intro x5 x6 M7 hf
    rw [f_X12_worthOf_L21] at hf
    refine x_iload C rfl (dkAt dk_X12_worthOf 14 rfl) 23 rfl ?_
    refine x_aload_n C rfl rfl (dkAt dk_X12_worthOf 15 rfl) 24 rfl ?_
    refine x_getS C lk_RX12_20 (hN.sh sh108) (hN.sr sr108_6) (dkAt dk_X12_worthOf 16 rfl) 27 rfl ?_
    refine x_iconst C (v := (0 : Int32)) (by decide) (dkAt dk_X12_worthOf 17 rfl) 28 rfl ?_
    refine x_iald C (hN.sh sh112) (dkAt dk_X12_worthOf 18 rfl) 29 rfl hf (fun v8 hf => ?_)
    refine x_icmp_ge C 67 (dkAt dk_X12_worthOf 19 rfl) 32 rfl (by decide) hf (fun hf => ?_) (fun hf => ?_)
    · refine x_lload C rfl (dkAt dk_X12_worthOf 42 rfl) 69 rfl ?_
      exact x_lret C E hf (by decide) (by decide) (dkAt dk_X12_worthOf 43 rfl)
    · refine x_lload C rfl (dkAt dk_X12_worthOf 20 rfl) 34 rfl ?_
      refine x_aload_n C rfl rfl (dkAt dk_X12_worthOf 21 rfl) 35 rfl ?_
      refine x_iload_n C rfl rfl (dkAt dk_X12_worthOf 22 rfl) 36 rfl ?_
      refine x_iload_n C rfl rfl (dkAt dk_X12_worthOf 23 rfl) 37 rfl ?_
      refine x_iload C rfl (dkAt dk_X12_worthOf 24 rfl) 39 rfl ?_
      obtain ⟨v9, M10, h12, hf⟩ := cl_inv hf
      refine x_cVi C (c_X12_percentBy hN h12) mw_X12_percentBy ln_RX12_249 mi_X12_percentBy (hN.rc (ci := 12) sh108 rc12) (ro_of (by decide) (by decide) (by decide) (by decide)) rfl rfl (Nat.le_of_ble_eq_true rfl) (dkAt dk_X12_worthOf 25 rfl) 42 rfl 0 0 rfl rfl ?_
      refine x_i2l C (dkAt dk_X12_worthOf 26 rfl) 43 rfl ?_
      refine x_aload_n C rfl rfl (dkAt dk_X12_worthOf 27 rfl) 44 rfl ?_
      refine x_getS C lk_RX12_49 (hN.sh sh108) (hN.sr sr108_25) (dkAt dk_X12_worthOf 28 rfl) 47 rfl ?_
      refine x_bipush C (v := (6 : Int32)) (by decide) (dkAt dk_X12_worthOf 29 rfl) 49 rfl ?_
      refine x_iload_n C rfl rfl (dkAt dk_X12_worthOf 30 rfl) 50 rfl ?_
      refine x_iconst C (v := (1 : Int32)) (by decide) (dkAt dk_X12_worthOf 31 rfl) 51 rfl ?_
      refine x_isub C (dkAt dk_X12_worthOf 32 rfl) 52 rfl ?_
      refine x_imul C (dkAt dk_X12_worthOf 33 rfl) 53 rfl ?_
      refine x_iload C rfl (dkAt dk_X12_worthOf 34 rfl) 55 rfl ?_
      refine x_iadd C (dkAt dk_X12_worthOf 35 rfl) 56 rfl ?_
      refine x_lald C (hN.sh sh120) (dkAt dk_X12_worthOf 36 rfl) 57 rfl hf (fun v11 hf => ?_)
      refine x_lmul C (dkAt dk_X12_worthOf 37 rfl) 58 rfl ?_
      refine x_ladd C (dkAt dk_X12_worthOf 38 rfl) 59 rfl ?_
      refine x_lstore C (L1 := [some (.ref (wad Γ 108)), some (.int p0), some (.int p1), some (.int p2), some (.long (x5 + (v9.toInt64 * v11))), none, some (.int x6)]) (dkAt dk_X12_worthOf 39 rfl) 61 rfl (by decide) rfl ?_
      refine x_iinc C (v := (x6 + (1 : Int32))) (L1 := [some (.ref (wad Γ 108)), some (.int p0), some (.int p1), some (.int p2), some (.long (x5 + (v9.toInt64 * v11))), none, some (.int (x6 + (1 : Int32)))]) (dkAt dk_X12_worthOf 40 rfl) 64 rfl rfl rfl (by decide) rfl ?_
      refine x_goto C 21 (dkAt dk_X12_worthOf 41 rfl) (by decide) ?_
      exact G.weak (L := [some (.ref (wad Γ 108)), some (.int p0), some (.int p1), some (.int p2), some (.long (x5 + (v9.toInt64 * v11))), none, some (.int (x6 + (1 : Int32)))]) ⟨rfl, rfl, rfl, rfl, rfl, rfl, trivial⟩ (ih _ _ _ hf)
set_option maxRecDepth 100000 in
theorem c_X12_worthOf {Γ : WC} (hN : HN Γ) {Z : Nat} {M : Mem} {p0 : Int32} {p1 : Int32} {p2 : Int32} {rM : Int64 × Mem}  (hf : f_X12_worthOf Z M p0 p1 p2 = some rM) : Ct Γ yX12_worthOf cX12_worthOf 7 (some .long) (rmL 1 0 0) [.ref (wad Γ 108), .int p0, .int p1, .int p2] M (some (.long rM.1)) rM.2 := by
  refine mkN hN.1 (own := RX12) rfl (by decide) (Nat.le_of_ble_eq_true rfl) (fun X C E => ?_)
  change G Γ X M 0 0 [some (.ref (wad Γ 108)), some (.int p0), some (.int p1), some (.int p2)] [] 0
  unfold f_X12_worthOf at hf
  refine x_aload_n C rfl rfl (dkAt dk_X12_worthOf 0 rfl) 1 rfl ?_
  refine x_iload_n C rfl rfl (dkAt dk_X12_worthOf 1 rfl) 2 rfl ?_
  refine x_iload_n C rfl rfl (dkAt dk_X12_worthOf 2 rfl) 3 rfl ?_
  obtain ⟨v1, M2, h14, hf⟩ := cl_inv hf
  refine x_cVi C (c_X12_gainBy hN h14) mw_X12_gainBy ln_RX12_242 mi_X12_gainBy (hN.rc (ci := 12) sh108 rc12) (ro_of (by decide) (by decide) (by decide) (by decide)) rfl rfl (Nat.le_of_ble_eq_true rfl) (dkAt dk_X12_worthOf 3 rfl) 6 rfl 0 0 rfl rfl ?_
  refine x_i2l C (dkAt dk_X12_worthOf 4 rfl) 7 rfl ?_
  refine x_bipush C (v := (100 : Int32)) (by decide) (dkAt dk_X12_worthOf 5 rfl) 9 rfl ?_
  refine x_iload_n C rfl rfl (dkAt dk_X12_worthOf 6 rfl) 10 rfl ?_
  refine x_iconst C (v := (1 : Int32)) (by decide) (dkAt dk_X12_worthOf 7 rfl) 11 rfl ?_
  refine x_isub C (dkAt dk_X12_worthOf 8 rfl) 12 rfl ?_
  obtain ⟨v3, M4, h13, hf⟩ := cl_inv hf
  refine x_cSl C (c_X12_power hN h13) mw_X12_power ln_RX12_273 ms_X12_power (ro_of (by decide) (by decide) (by decide) (by decide)) rfl rfl (Nat.le_of_ble_eq_true rfl) (dkAt dk_X12_worthOf 9 rfl) 15 rfl 0 0 rfl rfl ?_
  refine x_lmul C (dkAt dk_X12_worthOf 10 rfl) 16 rfl ?_
  refine x_lstore C (L1 := [some (.ref (wad Γ 108)), some (.int p0), some (.int p1), some (.int p2), some (.long (v1.toInt64 * v3))]) (dkAt dk_X12_worthOf 11 rfl) 18 rfl (by decide) rfl ?_
  refine x_iconst C (v := (0 : Int32)) (by decide) (dkAt dk_X12_worthOf 12 rfl) 19 rfl ?_
  refine x_istore C (L1 := [some (.ref (wad Γ 108)), some (.int p0), some (.int p1), some (.int p2), some (.long (v1.toInt64 * v3)), none, some (.int (0 : Int32))]) (dkAt dk_X12_worthOf 13 rfl) 21 rfl (by decide) rfl ?_
  refine G.weak (L := [some (.ref (wad Γ 108)), some (.int p0), some (.int p1), some (.int p2), some (.long (v1.toInt64 * v3)), none, some (.int (0 : Int32))]) ⟨rfl, rfl, rfl, rfl, rfl, rfl, trivial⟩ ?_
  refine l_X12_worthOf_L21 hN C E Z _ _ _ hf
def f_X12_worthiest_L5 (Z : Nat) (p0 : Int32) (p1 : Int32) : Nat → Int32 → Int32 → Mem → Option (Int32 × Mem)
  | 0, _, _, _ => none
  | n + 1, x1, x2, M3 => rdI M3 112 344 ((8 : Int32) + p0) (fun v4 => (if v4 ≤ x2 then some (x1, M3) else cl (f_X12_isPermittedNow Z M3 p0 x2) (fun v5 M6 => jn (fun (t7 : Int32 × Mem) => f_X12_worthiest_L5 Z p0 p1 n t7.1 (x2 + (1 : Int32)) t7.2) (fun j8 => jn (fun (t9 : Mem) => j8 (x1, t9)) (fun j10 => (if v5 = 0 then j10 M6 else jn (fun (t11 : Mem) => j8 (x2, t11)) (fun j12 => (if x1 < 0 then j12 M6 else cl (f_X12_worthOf Z M6 p0 x2 p1) (fun v13 M14 => cl (f_X12_worthOf Z M14 p0 x1 p1) (fun v15 M16 => (if v13 ≤ v15 then j10 M16 else j12 M16)))))))))))
def f_X12_worthiest (Z : Nat) (M : Mem) (p0 : Int32) (p1 : Int32) : Option (Int32 × Mem) :=
  f_X12_worthiest_L5 Z p0 p1 Z (-1 : Int32) (0 : Int32) M
set_option maxRecDepth 100000 in
theorem l_X12_worthiest_L5 {Γ : WC} {X : MX} (hN : HN Γ) (C : CX Γ X cX12_worthiest 5 RX12 (some .int) (rmL 2 0 0)) {rM : Int32 × Mem} (E : EndN Γ X (some (.int rM.1)) rM.2 0 0) {Z : Nat} {p0 : Int32} {p1 : Int32} : ∀ (n : Nat) (x1 : Int32) (x2 : Int32) (M3 : Mem), f_X12_worthiest_L5 Z p0 p1 n x1 x2 M3 = some rM → G Γ X M3 0 0 [some (.ref (wad Γ 108)), some (.int p0), some (.int p1), some (.int x1), some (.int x2)] [] 5 := by
  intro n
  induction n with
  | zero =>
    intro x1 x2 M3 hf
    have hf0 : (none : Option _) = some rM := hf
    cases hf0
  | succ n ih =>
    intro x1 x2 M3 hf
    rw [f_X12_worthiest_L5] at hf
    refine x_iload C rfl (dkAt dk_X12_worthiest 4 rfl) 7 rfl ?_
    refine x_aload_n C rfl rfl (dkAt dk_X12_worthiest 5 rfl) 8 rfl ?_
    refine x_getS C lk_RX12_20 (hN.sh sh108) (hN.sr sr108_6) (dkAt dk_X12_worthiest 6 rfl) 11 rfl ?_
    refine x_bipush C (v := (8 : Int32)) (by decide) (dkAt dk_X12_worthiest 7 rfl) 13 rfl ?_
    refine x_iload_n C rfl rfl (dkAt dk_X12_worthiest 8 rfl) 14 rfl ?_
    refine x_iadd C (dkAt dk_X12_worthiest 9 rfl) 15 rfl ?_
    refine x_iald C (hN.sh sh112) (dkAt dk_X12_worthiest 10 rfl) 16 rfl hf (fun v4 hf => ?_)
    refine x_icmp_ge C 65 (dkAt dk_X12_worthiest 11 rfl) 19 rfl (by decide) hf (fun hf => ?_) (fun hf => ?_)
    · refine x_iload_n C rfl rfl (dkAt dk_X12_worthiest 37 rfl) 66 rfl ?_
      exact x_iret C E hf (by decide) (by decide) (dkAt dk_X12_worthiest 38 rfl)
    · refine x_aload_n C rfl rfl (dkAt dk_X12_worthiest 12 rfl) 20 rfl ?_
      refine x_iload_n C rfl rfl (dkAt dk_X12_worthiest 13 rfl) 21 rfl ?_
      refine x_iload C rfl (dkAt dk_X12_worthiest 14 rfl) 23 rfl ?_
      obtain ⟨v5, M6, h19, hf⟩ := cl_inv hf
      refine x_cVi C (c_X12_isPermittedNow hN h19) mw_X12_isPermittedNow ln_RX12_255 mi_X12_isPermittedNow (hN.rc (ci := 12) sh108 rc12) (ro_of (by decide) (by decide) (by decide) (by decide)) rfl rfl (Nat.le_of_ble_eq_true rfl) (dkAt dk_X12_worthiest 15 rfl) 26 rfl 0 0 rfl rfl ?_
      refine x_join hf (fun t7 => G Γ X t7.2 0 0 [some (.ref (wad Γ 108)), some (.int p0), some (.int p1), none, some (.int x2)] [.int t7.1] 58) (fun t7 hf => ?_) (fun j8 hj8 hf => ?_)
      · refine x_istore_n C (L1 := [some (.ref (wad Γ 108)), some (.int p0), some (.int p1), some (.int t7.1), some (.int x2)]) (dkAt dk_X12_worthiest 34 rfl) 59 rfl rfl (by decide) rfl ?_
        refine x_iinc C (v := (x2 + (1 : Int32))) (L1 := [some (.ref (wad Γ 108)), some (.int p0), some (.int p1), some (.int t7.1), some (.int (x2 + (1 : Int32)))]) (dkAt dk_X12_worthiest 35 rfl) 62 rfl rfl rfl (by decide) rfl ?_
        refine x_goto C 5 (dkAt dk_X12_worthiest 36 rfl) (by decide) ?_
        exact G.weak (L := [some (.ref (wad Γ 108)), some (.int p0), some (.int p1), some (.int t7.1), some (.int (x2 + (1 : Int32)))]) ⟨rfl, rfl, rfl, rfl, rfl, trivial⟩ (ih _ _ _ hf)
      · refine x_join hf (fun t9 => G Γ X t9 0 0 [some (.ref (wad Γ 108)), some (.int p0), some (.int p1), some (.int x1), some (.int x2)] [] 57) (fun t9 hf => ?_) (fun j10 hj10 hf => ?_)
        · refine x_iload_n C rfl rfl (dkAt dk_X12_worthiest 33 rfl) 58 rfl ?_
          exact G.weak (L := [some (.ref (wad Γ 108)), some (.int p0), some (.int p1), none, some (.int x2)]) ⟨rfl, rfl, rfl, rfl, trivial⟩ (hj8 _ hf)
        · refine x_if_eq C 57 (dkAt dk_X12_worthiest 16 rfl) 29 rfl (by decide) hf (fun hf => ?_) (fun hf => ?_)
          · exact G.weak (L := [some (.ref (wad Γ 108)), some (.int p0), some (.int p1), some (.int x1), some (.int x2)]) ⟨rfl, rfl, rfl, rfl, rfl, trivial⟩ (hj10 _ hf)
          · refine x_iload_n C rfl rfl (dkAt dk_X12_worthiest 17 rfl) 30 rfl ?_
            refine x_join hf (fun t11 => G Γ X t11 0 0 [some (.ref (wad Γ 108)), some (.int p0), some (.int p1), none, some (.int x2)] [] 52) (fun t11 hf => ?_) (fun j12 hj12 hf => ?_)
            · refine x_iload C rfl (dkAt dk_X12_worthiest 31 rfl) 54 rfl ?_
              refine x_goto C 58 (dkAt dk_X12_worthiest 32 rfl) (by decide) ?_
              exact G.weak (L := [some (.ref (wad Γ 108)), some (.int p0), some (.int p1), none, some (.int x2)]) ⟨rfl, rfl, rfl, rfl, trivial⟩ (hj8 _ hf)
            · refine x_if_lt C 52 (dkAt dk_X12_worthiest 18 rfl) 33 rfl (by decide) hf (fun hf => ?_) (fun hf => ?_)
              · exact G.weak (L := [some (.ref (wad Γ 108)), some (.int p0), some (.int p1), none, some (.int x2)]) ⟨rfl, rfl, rfl, rfl, trivial⟩ (hj12 _ hf)
              · refine x_aload_n C rfl rfl (dkAt dk_X12_worthiest 19 rfl) 34 rfl ?_
                refine x_iload_n C rfl rfl (dkAt dk_X12_worthiest 20 rfl) 35 rfl ?_
                refine x_iload C rfl (dkAt dk_X12_worthiest 21 rfl) 37 rfl ?_
                refine x_iload_n C rfl rfl (dkAt dk_X12_worthiest 22 rfl) 38 rfl ?_
                obtain ⟨v13, M14, h18, hf⟩ := cl_inv hf
                refine x_cVl C (c_X12_worthOf hN h18) mw_X12_worthOf ln_RX12_312 mi_X12_worthOf (hN.rc (ci := 12) sh108 rc12) (ro_of (by decide) (by decide) (by decide) (by decide)) rfl rfl (Nat.le_of_ble_eq_true rfl) (dkAt dk_X12_worthiest 23 rfl) 41 rfl 0 0 rfl rfl ?_
                refine x_aload_n C rfl rfl (dkAt dk_X12_worthiest 24 rfl) 42 rfl ?_
                refine x_iload_n C rfl rfl (dkAt dk_X12_worthiest 25 rfl) 43 rfl ?_
                refine x_iload_n C rfl rfl (dkAt dk_X12_worthiest 26 rfl) 44 rfl ?_
                refine x_iload_n C rfl rfl (dkAt dk_X12_worthiest 27 rfl) 45 rfl ?_
                obtain ⟨v15, M16, h17, hf⟩ := cl_inv hf
                refine x_cVl C (c_X12_worthOf hN h17) mw_X12_worthOf ln_RX12_312 mi_X12_worthOf (hN.rc (ci := 12) sh108 rc12) (ro_of (by decide) (by decide) (by decide) (by decide)) rfl rfl (Nat.le_of_ble_eq_true rfl) (dkAt dk_X12_worthiest 28 rfl) 48 rfl 0 0 rfl rfl ?_
                refine x_lcmp_le C 57 (dkAt dk_X12_worthiest 29 rfl) 52 rfl (dkAt dk_X12_worthiest 30 rfl) (by decide) hf (fun hf => ?_) (fun hf => ?_)
                · exact G.weak (L := [some (.ref (wad Γ 108)), some (.int p0), some (.int p1), some (.int x1), some (.int x2)]) ⟨rfl, rfl, rfl, rfl, rfl, trivial⟩ (hj10 _ hf)
                · exact G.weak (L := [some (.ref (wad Γ 108)), some (.int p0), some (.int p1), none, some (.int x2)]) ⟨rfl, rfl, rfl, rfl, trivial⟩ (hj12 _ hf)
set_option maxRecDepth 100000 in
theorem c_X12_worthiest {Γ : WC} (hN : HN Γ) {Z : Nat} {M : Mem} {p0 : Int32} {p1 : Int32} {rM : Int32 × Mem}  (hf : f_X12_worthiest Z M p0 p1 = some rM) : Ct Γ yX12_worthiest cX12_worthiest 5 (some .int) (rmL 2 0 0) [.ref (wad Γ 108), .int p0, .int p1] M (some (.int rM.1)) rM.2 := by
  refine mkN hN.1 (own := RX12) rfl (by decide) (Nat.le_of_ble_eq_true rfl) (fun X C E => ?_)
  change G Γ X M 0 0 [some (.ref (wad Γ 108)), some (.int p0), some (.int p1)] [] 0
  unfold f_X12_worthiest at hf
  refine x_iconst C (v := (-1 : Int32)) (by decide) (dkAt dk_X12_worthiest 0 rfl) 1 rfl ?_
  refine x_istore_n C (L1 := [some (.ref (wad Γ 108)), some (.int p0), some (.int p1), some (.int (-1 : Int32))]) (dkAt dk_X12_worthiest 1 rfl) 2 rfl rfl (by decide) rfl ?_
  refine x_iconst C (v := (0 : Int32)) (by decide) (dkAt dk_X12_worthiest 2 rfl) 3 rfl ?_
  refine x_istore C (L1 := [some (.ref (wad Γ 108)), some (.int p0), some (.int p1), some (.int (-1 : Int32)), some (.int (0 : Int32))]) (dkAt dk_X12_worthiest 3 rfl) 5 rfl (by decide) rfl ?_
  refine G.weak (L := [some (.ref (wad Γ 108)), some (.int p0), some (.int p1), some (.int (-1 : Int32)), some (.int (0 : Int32))]) ⟨rfl, rfl, rfl, rfl, rfl, trivial⟩ ?_
  refine l_X12_worthiest_L5 hN C E Z _ _ _ hf
def f_X12_laysWorths_L2 (Z : Nat) (p0 : Int32) (k : Mem → Option (Unit × Mem)) : Nat → Int32 → Mem → Option (Unit × Mem)
  | 0, _, _ => none
  | n + 1, x1, M2 => rdI M2 112 344 (0 : Int32) (fun v3 => (if v3 ≤ x1 then k M2 else wrL M2 120 36 x1 (0 : Int64) (fun M4 => f_X12_laysWorths_L2 Z p0 k n (x1 + (1 : Int32)) M4)))
def f_X12_laysWorths_L34 (Z : Nat) (p0 : Int32) (x6 : Int32) (k : Mem → Option (Unit × Mem)) : Nat → Int32 → Mem → Option (Unit × Mem)
  | 0, _, _ => none
  | n + 1, x8, M9 => rdI M9 112 344 (0 : Int32) (fun v10 => (if v10 ≤ x8 then k M9 else cl (f_X12_worthiest Z M9 x8 x6) (fun v11 M12 => cl (f_X12_worthOf Z M12 x8 v11 x6) (fun v13 M14 => wrL M14 120 36 (((6 : Int32) * x6) + x8) v13 (fun M15 => f_X12_laysWorths_L34 Z p0 x6 k n (x8 + (1 : Int32)) M15)))))
def f_X12_laysWorths_L27 (Z : Nat) (p0 : Int32) : Nat → Int32 → Mem → Option (Unit × Mem)
  | 0, _, _ => none
  | n + 1, x6, M7 => (if p0 < x6 then some ((), M7) else f_X12_laysWorths_L34 Z p0 x6 (fun (M18 : Mem) => f_X12_laysWorths_L27 Z p0 n (x6 + (1 : Int32)) M18) Z (0 : Int32) M7)
def f_X12_laysWorths (Z : Nat) (M : Mem) (p0 : Int32) : Option (Unit × Mem) :=
  f_X12_laysWorths_L2 Z p0 (fun (M5 : Mem) => f_X12_laysWorths_L27 Z p0 Z (1 : Int32) M5) Z (0 : Int32) M
set_option maxRecDepth 100000 in
theorem l_X12_laysWorths_L2 {Γ : WC} {X : MX} (hN : HN Γ) (C : CX Γ X cX12_laysWorths 4 RX12 none (rmL 3 0 0)) {rM : Unit × Mem} (E : EndN Γ X none rM.2 0 0) {Z : Nat} {p0 : Int32} {k : Mem → Option (Unit × Mem)} (hk : ∀  (Mx : Mem), k Mx = some rM → G Γ X Mx 0 0 [some (.ref (wad Γ 108)), some (.int p0)] [] 25) : ∀ (n : Nat) (x1 : Int32) (M2 : Mem), f_X12_laysWorths_L2 Z p0 k n x1 M2 = some rM → G Γ X M2 0 0 [some (.ref (wad Γ 108)), some (.int p0), some (.int x1)] [] 2 := by
  intro n
  induction n with
  | zero =>
    intro x1 M2 hf
    have hf0 : (none : Option _) = some rM := hf
    cases hf0
  | succ n ih =>
    intro x1 M2 hf
    rw [f_X12_laysWorths_L2] at hf
    refine x_iload_n C rfl rfl (dkAt dk_X12_laysWorths 2 rfl) 3 rfl ?_
    refine x_aload_n C rfl rfl (dkAt dk_X12_laysWorths 3 rfl) 4 rfl ?_
    refine x_getS C lk_RX12_20 (hN.sh sh108) (hN.sr sr108_6) (dkAt dk_X12_laysWorths 4 rfl) 7 rfl ?_
    refine x_iconst C (v := (0 : Int32)) (by decide) (dkAt dk_X12_laysWorths 5 rfl) 8 rfl ?_
    refine x_iald C (hN.sh sh112) (dkAt dk_X12_laysWorths 6 rfl) 9 rfl hf (fun v3 hf => ?_)
    refine x_icmp_ge C 25 (dkAt dk_X12_laysWorths 7 rfl) 12 rfl (by decide) hf (fun hf => ?_) (fun hf => ?_)
    · exact G.weak (L := [some (.ref (wad Γ 108)), some (.int p0)]) ⟨rfl, rfl, trivial⟩ (hk _ hf)
    · refine x_aload_n C rfl rfl (dkAt dk_X12_laysWorths 8 rfl) 13 rfl ?_
      refine x_getS C lk_RX12_49 (hN.sh sh108) (hN.sr sr108_25) (dkAt dk_X12_laysWorths 9 rfl) 16 rfl ?_
      refine x_iload_n C rfl rfl (dkAt dk_X12_laysWorths 10 rfl) 17 rfl ?_
      refine x_lconst C (v := (0 : Int64)) (by decide) (dkAt dk_X12_laysWorths 11 rfl) 18 rfl ?_
      refine x_last C (hN.sh sh120) (dkAt dk_X12_laysWorths 12 rfl) 19 rfl hf (fun M4 hf => ?_)
      refine x_iinc C (v := (x1 + (1 : Int32))) (L1 := [some (.ref (wad Γ 108)), some (.int p0), some (.int (x1 + (1 : Int32)))]) (dkAt dk_X12_laysWorths 13 rfl) 22 rfl rfl rfl (by decide) rfl ?_
      refine x_goto C 2 (dkAt dk_X12_laysWorths 14 rfl) (by decide) ?_
      exact G.weak (L := [some (.ref (wad Γ 108)), some (.int p0), some (.int (x1 + (1 : Int32)))]) ⟨rfl, rfl, rfl, trivial⟩ (ih _ _ hf)
set_option maxRecDepth 100000 in
theorem l_X12_laysWorths_L34 {Γ : WC} {X : MX} (hN : HN Γ) (C : CX Γ X cX12_laysWorths 4 RX12 none (rmL 3 0 0)) {rM : Unit × Mem} (E : EndN Γ X none rM.2 0 0) {Z : Nat} {p0 : Int32} {x6 : Int32} {k : Mem → Option (Unit × Mem)} (hk : ∀  (Mx : Mem), k Mx = some rM → G Γ X Mx 0 0 [some (.ref (wad Γ 108)), some (.int p0), some (.int x6)] [] 73) : ∀ (n : Nat) (x8 : Int32) (M9 : Mem), f_X12_laysWorths_L34 Z p0 x6 k n x8 M9 = some rM → G Γ X M9 0 0 [some (.ref (wad Γ 108)), some (.int p0), some (.int x6), some (.int x8)] [] 34 := by
  intro n
  induction n with
  | zero =>
    intro x8 M9 hf
    have hf0 : (none : Option _) = some rM := hf
    cases hf0
  | succ n ih =>
    intro x8 M9 hf
    rw [f_X12_laysWorths_L34] at hf
    refine x_iload_n C rfl rfl (dkAt dk_X12_laysWorths 22 rfl) 35 rfl ?_
    refine x_aload_n C rfl rfl (dkAt dk_X12_laysWorths 23 rfl) 36 rfl ?_
    refine x_getS C lk_RX12_20 (hN.sh sh108) (hN.sr sr108_6) (dkAt dk_X12_laysWorths 24 rfl) 39 rfl ?_
    refine x_iconst C (v := (0 : Int32)) (by decide) (dkAt dk_X12_laysWorths 25 rfl) 40 rfl ?_
    refine x_iald C (hN.sh sh112) (dkAt dk_X12_laysWorths 26 rfl) 41 rfl hf (fun v10 hf => ?_)
    refine x_icmp_ge C 73 (dkAt dk_X12_laysWorths 27 rfl) 44 rfl (by decide) hf (fun hf => ?_) (fun hf => ?_)
    · exact G.weak (L := [some (.ref (wad Γ 108)), some (.int p0), some (.int x6)]) ⟨rfl, rfl, rfl, trivial⟩ (hk _ hf)
    · refine x_aload_n C rfl rfl (dkAt dk_X12_laysWorths 28 rfl) 45 rfl ?_
      refine x_getS C lk_RX12_49 (hN.sh sh108) (hN.sr sr108_25) (dkAt dk_X12_laysWorths 29 rfl) 48 rfl ?_
      refine x_bipush C (v := (6 : Int32)) (by decide) (dkAt dk_X12_laysWorths 30 rfl) 50 rfl ?_
      refine x_iload_n C rfl rfl (dkAt dk_X12_laysWorths 31 rfl) 51 rfl ?_
      refine x_imul C (dkAt dk_X12_laysWorths 32 rfl) 52 rfl ?_
      refine x_iload_n C rfl rfl (dkAt dk_X12_laysWorths 33 rfl) 53 rfl ?_
      refine x_iadd C (dkAt dk_X12_laysWorths 34 rfl) 54 rfl ?_
      refine x_aload_n C rfl rfl (dkAt dk_X12_laysWorths 35 rfl) 55 rfl ?_
      refine x_iload_n C rfl rfl (dkAt dk_X12_laysWorths 36 rfl) 56 rfl ?_
      refine x_aload_n C rfl rfl (dkAt dk_X12_laysWorths 37 rfl) 57 rfl ?_
      refine x_iload_n C rfl rfl (dkAt dk_X12_laysWorths 38 rfl) 58 rfl ?_
      refine x_iload_n C rfl rfl (dkAt dk_X12_laysWorths 39 rfl) 59 rfl ?_
      obtain ⟨v11, M12, h17, hf⟩ := cl_inv hf
      refine x_cVi C (c_X12_worthiest hN h17) mw_X12_worthiest ln_RX12_316 mi_X12_worthiest (hN.rc (ci := 12) sh108 rc12) (ro_of (by decide) (by decide) (by decide) (by decide)) rfl rfl (Nat.le_of_ble_eq_true rfl) (dkAt dk_X12_laysWorths 40 rfl) 62 rfl 0 0 rfl rfl ?_
      refine x_iload_n C rfl rfl (dkAt dk_X12_laysWorths 41 rfl) 63 rfl ?_
      obtain ⟨v13, M14, h16, hf⟩ := cl_inv hf
      refine x_cVl C (c_X12_worthOf hN h16) mw_X12_worthOf ln_RX12_312 mi_X12_worthOf (hN.rc (ci := 12) sh108 rc12) (ro_of (by decide) (by decide) (by decide) (by decide)) rfl rfl (Nat.le_of_ble_eq_true rfl) (dkAt dk_X12_laysWorths 42 rfl) 66 rfl 0 0 rfl rfl ?_
      refine x_last C (hN.sh sh120) (dkAt dk_X12_laysWorths 43 rfl) 67 rfl hf (fun M15 hf => ?_)
      refine x_iinc C (v := (x8 + (1 : Int32))) (L1 := [some (.ref (wad Γ 108)), some (.int p0), some (.int x6), some (.int (x8 + (1 : Int32)))]) (dkAt dk_X12_laysWorths 44 rfl) 70 rfl rfl rfl (by decide) rfl ?_
      refine x_goto C 34 (dkAt dk_X12_laysWorths 45 rfl) (by decide) ?_
      exact G.weak (L := [some (.ref (wad Γ 108)), some (.int p0), some (.int x6), some (.int (x8 + (1 : Int32)))]) ⟨rfl, rfl, rfl, rfl, trivial⟩ (ih _ _ hf)
set_option maxRecDepth 100000 in
theorem l_X12_laysWorths_L27 {Γ : WC} {X : MX} (hN : HN Γ) (C : CX Γ X cX12_laysWorths 4 RX12 none (rmL 3 0 0)) {rM : Unit × Mem} (E : EndN Γ X none rM.2 0 0) {Z : Nat} {p0 : Int32} : ∀ (n : Nat) (x6 : Int32) (M7 : Mem), f_X12_laysWorths_L27 Z p0 n x6 M7 = some rM → G Γ X M7 0 0 [some (.ref (wad Γ 108)), some (.int p0), some (.int x6)] [] 27 := by
  intro n
  induction n with
  | zero =>
    intro x6 M7 hf
    have hf0 : (none : Option _) = some rM := hf
    cases hf0
  | succ n ih =>
    intro x6 M7 hf
    rw [f_X12_laysWorths_L27] at hf
    refine x_iload_n C rfl rfl (dkAt dk_X12_laysWorths 17 rfl) 28 rfl ?_
    refine x_iload_n C rfl rfl (dkAt dk_X12_laysWorths 18 rfl) 29 rfl ?_
    refine x_icmp_gt C 79 (dkAt dk_X12_laysWorths 19 rfl) 32 rfl (by decide) hf (fun hf => ?_) (fun hf => ?_)
    · exact x_vret C E hf (by decide) (by decide) (dkAt dk_X12_laysWorths 48 rfl)
    · refine x_iconst C (v := (0 : Int32)) (by decide) (dkAt dk_X12_laysWorths 20 rfl) 33 rfl ?_
      refine x_istore_n C (L1 := [some (.ref (wad Γ 108)), some (.int p0), some (.int x6), some (.int (0 : Int32))]) (dkAt dk_X12_laysWorths 21 rfl) 34 rfl rfl (by decide) rfl ?_
      refine G.weak (L := [some (.ref (wad Γ 108)), some (.int p0), some (.int x6), some (.int (0 : Int32))]) ⟨rfl, rfl, rfl, rfl, trivial⟩ ?_
      refine l_X12_laysWorths_L34 hN C E ?_ Z _ _ hf
      intro M18 hf
      refine x_iinc C (v := (x6 + (1 : Int32))) (L1 := [some (.ref (wad Γ 108)), some (.int p0), some (.int (x6 + (1 : Int32)))]) (dkAt dk_X12_laysWorths 46 rfl) 76 rfl rfl rfl (by decide) rfl ?_
      refine x_goto C 27 (dkAt dk_X12_laysWorths 47 rfl) (by decide) ?_
      exact G.weak (L := [some (.ref (wad Γ 108)), some (.int p0), some (.int (x6 + (1 : Int32)))]) ⟨rfl, rfl, rfl, trivial⟩ (ih _ _ hf)
set_option maxRecDepth 100000 in
theorem c_X12_laysWorths {Γ : WC} (hN : HN Γ) {Z : Nat} {M : Mem} {p0 : Int32} {rM : Unit × Mem}  (hf : f_X12_laysWorths Z M p0 = some rM) : Ct Γ yX12_laysWorths cX12_laysWorths 4 none (rmL 3 0 0) [.ref (wad Γ 108), .int p0] M none rM.2 := by
  refine mkN hN.1 (own := RX12) rfl (by decide) (Nat.le_of_ble_eq_true rfl) (fun X C E => ?_)
  change G Γ X M 0 0 [some (.ref (wad Γ 108)), some (.int p0)] [] 0
  unfold f_X12_laysWorths at hf
  refine x_iconst C (v := (0 : Int32)) (by decide) (dkAt dk_X12_laysWorths 0 rfl) 1 rfl ?_
  refine x_istore_n C (L1 := [some (.ref (wad Γ 108)), some (.int p0), some (.int (0 : Int32))]) (dkAt dk_X12_laysWorths 1 rfl) 2 rfl rfl (by decide) rfl ?_
  refine G.weak (L := [some (.ref (wad Γ 108)), some (.int p0), some (.int (0 : Int32))]) ⟨rfl, rfl, rfl, trivial⟩ ?_
  refine l_X12_laysWorths_L2 hN C E ?_ Z _ _ hf
  intro M5 hf
  refine x_iconst C (v := (1 : Int32)) (by decide) (dkAt dk_X12_laysWorths 15 rfl) 26 rfl ?_
  refine x_istore_n C (L1 := [some (.ref (wad Γ 108)), some (.int p0), some (.int (1 : Int32))]) (dkAt dk_X12_laysWorths 16 rfl) 27 rfl rfl (by decide) rfl ?_
  refine G.weak (L := [some (.ref (wad Γ 108)), some (.int p0), some (.int (1 : Int32))]) ⟨rfl, rfl, rfl, trivial⟩ ?_
  refine l_X12_laysWorths_L27 hN C E Z _ _ hf
def f_X12_value (Z : Nat) (M : Mem) (p0 : Int32) (p1 : Int32) : Option (Int64 × Mem) :=
  cl (f_X12_noState Z M p0) (fun v1 M2 => (if v1 = 0 then cl (f_X12_in Z M2 p1.toInt64 (0 : Int64) (5 : Int64)) (fun v3 M4 => jn (fun (t5 : Int32) => cl (f_X12_refuse Z M4 t5 (3 : Int32)) (fun v6 M7 => (if v6 = 0 then cl (f_X12_laysWorths Z M7 p1) (fun v8 M9 => rdL M9 120 36 (((6 : Int32) * p1) + p0) (fun v10 => some (v10, M9))) else some ((0 : Int64), M7)))) (fun j13 => (if v3 = 0 then j13 (1 : Int32) else j13 (0 : Int32)))) else some ((0 : Int64), M2)))
set_option maxRecDepth 100000 in
theorem c_X12_value {Γ : WC} (hN : HN Γ) {Z : Nat} {M : Mem} {p0 : Int32} {p1 : Int32} {rM : Int64 × Mem}  (hf : f_X12_value Z M p0 p1 = some rM) : Ct Γ yX12_value cX12_value 3 (some .long) (rmL 4 0 0) [.ref (wad Γ 108), .int p0, .int p1] M (some (.long rM.1)) rM.2 := by
  refine mkN hN.1 (own := RX12) rfl (by decide) (Nat.le_of_ble_eq_true rfl) (fun X C E => ?_)
  change G Γ X M 0 0 [some (.ref (wad Γ 108)), some (.int p0), some (.int p1)] [] 0
  unfold f_X12_value at hf
  refine x_aload_n C rfl rfl (dkAt dk_X12_value 0 rfl) 1 rfl ?_
  refine x_iload_n C rfl rfl (dkAt dk_X12_value 1 rfl) 2 rfl ?_
  obtain ⟨v1, M2, h15, hf⟩ := cl_inv hf
  refine x_cVi C (c_X12_noState hN h15) mw_X12_noState ln_RX12_236 mi_X12_noState (hN.rc (ci := 12) sh108 rc12) (ro_of (by decide) (by decide) (by decide) (by decide)) rfl rfl (Nat.le_of_ble_eq_true rfl) (dkAt dk_X12_value 2 rfl) 5 rfl 0 0 rfl rfl ?_
  refine x_if_ne C 33 (dkAt dk_X12_value 3 rfl) 8 rfl (by decide) hf (fun hf => ?_) (fun hf => ?_)
  · refine x_lconst C (v := (0 : Int64)) (by decide) (dkAt dk_X12_value 17 rfl) 34 rfl ?_
    exact x_lret C E hf (by decide) (by decide) (dkAt dk_X12_value 18 rfl)
  · refine x_aload_n C rfl rfl (dkAt dk_X12_value 4 rfl) 9 rfl ?_
    refine x_iload_n C rfl rfl (dkAt dk_X12_value 5 rfl) 10 rfl ?_
    refine x_i2l C (dkAt dk_X12_value 6 rfl) 11 rfl ?_
    refine x_lconst C (v := (0 : Int64)) (by decide) (dkAt dk_X12_value 7 rfl) 12 rfl ?_
    refine x_ldc2 C (v := (5 : Int64)) cl_RX12_319 (dkAt dk_X12_value 8 rfl) 15 rfl ?_
    obtain ⟨v3, M4, h14, hf⟩ := cl_inv hf
    refine x_cSi C (c_X12_in hN h14) mw_X12_in ln_RX12_137 ms_X12_in (ro_of (by decide) (by decide) (by decide) (by decide)) rfl rfl (Nat.le_of_ble_eq_true rfl) (dkAt dk_X12_value 9 rfl) 18 rfl 0 0 rfl rfl ?_
    refine x_join hf (fun t5 => G Γ X M4 0 0 [some (.ref (wad Γ 108)), some (.int p0), some (.int p1)] [.int t5, .ref (wad Γ 108)] 26) (fun t5 hf => ?_) (fun j13 hj13 hf => ?_)
    · refine x_iconst C (v := (3 : Int32)) (by decide) (dkAt dk_X12_value 14 rfl) 27 rfl ?_
      obtain ⟨v6, M7, h12, hf⟩ := cl_inv hf
      refine x_cVi C (c_X12_refuse hN h12) mw_X12_refuse ln_RX12_68 mi_X12_refuse (hN.rc (ci := 12) sh108 rc12) (ro_of (by decide) (by decide) (by decide) (by decide)) rfl rfl (Nat.le_of_ble_eq_true rfl) (dkAt dk_X12_value 15 rfl) 30 rfl 0 0 rfl rfl ?_
      refine x_if_eq C 35 (dkAt dk_X12_value 16 rfl) 33 rfl (by decide) hf (fun hf => ?_) (fun hf => ?_)
      · refine x_aload_n C rfl rfl (dkAt dk_X12_value 19 rfl) 36 rfl ?_
        refine x_iload_n C rfl rfl (dkAt dk_X12_value 20 rfl) 37 rfl ?_
        obtain ⟨v8, M9, h11, hf⟩ := cl_inv hf
        refine x_cVv C (c_X12_laysWorths hN h11) mw_X12_laysWorths ln_RX12_321 mi_X12_laysWorths (hN.rc (ci := 12) sh108 rc12) (ro_of (by decide) (by decide) (by decide) (by decide)) rfl rfl (Nat.le_of_ble_eq_true rfl) (dkAt dk_X12_value 21 rfl) 40 rfl 0 0 rfl rfl ?_
        refine x_aload_n C rfl rfl (dkAt dk_X12_value 22 rfl) 41 rfl ?_
        refine x_getS C lk_RX12_49 (hN.sh sh108) (hN.sr sr108_25) (dkAt dk_X12_value 23 rfl) 44 rfl ?_
        refine x_bipush C (v := (6 : Int32)) (by decide) (dkAt dk_X12_value 24 rfl) 46 rfl ?_
        refine x_iload_n C rfl rfl (dkAt dk_X12_value 25 rfl) 47 rfl ?_
        refine x_imul C (dkAt dk_X12_value 26 rfl) 48 rfl ?_
        refine x_iload_n C rfl rfl (dkAt dk_X12_value 27 rfl) 49 rfl ?_
        refine x_iadd C (dkAt dk_X12_value 28 rfl) 50 rfl ?_
        refine x_lald C (hN.sh sh120) (dkAt dk_X12_value 29 rfl) 51 rfl hf (fun v10 hf => ?_)
        exact x_lret C E hf (by decide) (by decide) (dkAt dk_X12_value 30 rfl)
      · refine x_lconst C (v := (0 : Int64)) (by decide) (dkAt dk_X12_value 17 rfl) 34 rfl ?_
        exact x_lret C E hf (by decide) (by decide) (dkAt dk_X12_value 18 rfl)
    · refine x_if_ne C 25 (dkAt dk_X12_value 10 rfl) 21 rfl (by decide) hf (fun hf => ?_) (fun hf => ?_)
      · refine x_iconst C (v := (0 : Int32)) (by decide) (dkAt dk_X12_value 13 rfl) 26 rfl ?_
        exact G.weak (L := [some (.ref (wad Γ 108)), some (.int p0), some (.int p1)]) ⟨rfl, rfl, rfl, trivial⟩ (hj13 _ hf)
      · refine x_iconst C (v := (1 : Int32)) (by decide) (dkAt dk_X12_value 11 rfl) 22 rfl ?_
        refine x_goto C 26 (dkAt dk_X12_value 12 rfl) (by decide) ?_
        exact G.weak (L := [some (.ref (wad Γ 108)), some (.int p0), some (.int p1)]) ⟨rfl, rfl, rfl, trivial⟩ (hj13 _ hf)
def f_X12_valueAction (Z : Nat) (M : Mem) (p0 : Int32) (p1 : Int32) : Option (Int32 × Mem) :=
  cl (f_X12_noState Z M p0) (fun v1 M2 => (if v1 = 0 then cl (f_X12_in Z M2 p1.toInt64 (1 : Int64) (5 : Int64)) (fun v3 M4 => jn (fun (t5 : Int32) => cl (f_X12_refuse Z M4 t5 (3 : Int32)) (fun v6 M7 => (if v6 = 0 then cl (f_X12_laysWorths Z M7 p1) (fun v8 M9 => cl (f_X12_worthiest Z M9 p0 p1) (fun v10 M11 => some (v10, M11))) else some ((0 : Int32), M7)))) (fun j15 => (if v3 = 0 then j15 (1 : Int32) else j15 (0 : Int32)))) else some ((0 : Int32), M2)))
set_option maxRecDepth 100000 in
theorem c_X12_valueAction {Γ : WC} (hN : HN Γ) {Z : Nat} {M : Mem} {p0 : Int32} {p1 : Int32} {rM : Int32 × Mem}  (hf : f_X12_valueAction Z M p0 p1 = some rM) : Ct Γ yX12_valueAction cX12_valueAction 3 (some .int) (rmL 4 0 0) [.ref (wad Γ 108), .int p0, .int p1] M (some (.int rM.1)) rM.2 := by
  refine mkN hN.1 (own := RX12) rfl (by decide) (Nat.le_of_ble_eq_true rfl) (fun X C E => ?_)
  change G Γ X M 0 0 [some (.ref (wad Γ 108)), some (.int p0), some (.int p1)] [] 0
  unfold f_X12_valueAction at hf
  refine x_aload_n C rfl rfl (dkAt dk_X12_valueAction 0 rfl) 1 rfl ?_
  refine x_iload_n C rfl rfl (dkAt dk_X12_valueAction 1 rfl) 2 rfl ?_
  obtain ⟨v1, M2, h17, hf⟩ := cl_inv hf
  refine x_cVi C (c_X12_noState hN h17) mw_X12_noState ln_RX12_236 mi_X12_noState (hN.rc (ci := 12) sh108 rc12) (ro_of (by decide) (by decide) (by decide) (by decide)) rfl rfl (Nat.le_of_ble_eq_true rfl) (dkAt dk_X12_valueAction 2 rfl) 5 rfl 0 0 rfl rfl ?_
  refine x_if_ne C 33 (dkAt dk_X12_valueAction 3 rfl) 8 rfl (by decide) hf (fun hf => ?_) (fun hf => ?_)
  · refine x_iconst C (v := (0 : Int32)) (by decide) (dkAt dk_X12_valueAction 17 rfl) 34 rfl ?_
    exact x_iret C E hf (by decide) (by decide) (dkAt dk_X12_valueAction 18 rfl)
  · refine x_aload_n C rfl rfl (dkAt dk_X12_valueAction 4 rfl) 9 rfl ?_
    refine x_iload_n C rfl rfl (dkAt dk_X12_valueAction 5 rfl) 10 rfl ?_
    refine x_i2l C (dkAt dk_X12_valueAction 6 rfl) 11 rfl ?_
    refine x_lconst C (v := (1 : Int64)) (by decide) (dkAt dk_X12_valueAction 7 rfl) 12 rfl ?_
    refine x_ldc2 C (v := (5 : Int64)) cl_RX12_319 (dkAt dk_X12_valueAction 8 rfl) 15 rfl ?_
    obtain ⟨v3, M4, h16, hf⟩ := cl_inv hf
    refine x_cSi C (c_X12_in hN h16) mw_X12_in ln_RX12_137 ms_X12_in (ro_of (by decide) (by decide) (by decide) (by decide)) rfl rfl (Nat.le_of_ble_eq_true rfl) (dkAt dk_X12_valueAction 9 rfl) 18 rfl 0 0 rfl rfl ?_
    refine x_join hf (fun t5 => G Γ X M4 0 0 [some (.ref (wad Γ 108)), some (.int p0), some (.int p1)] [.int t5, .ref (wad Γ 108)] 26) (fun t5 hf => ?_) (fun j15 hj15 hf => ?_)
    · refine x_iconst C (v := (3 : Int32)) (by decide) (dkAt dk_X12_valueAction 14 rfl) 27 rfl ?_
      obtain ⟨v6, M7, h14, hf⟩ := cl_inv hf
      refine x_cVi C (c_X12_refuse hN h14) mw_X12_refuse ln_RX12_68 mi_X12_refuse (hN.rc (ci := 12) sh108 rc12) (ro_of (by decide) (by decide) (by decide) (by decide)) rfl rfl (Nat.le_of_ble_eq_true rfl) (dkAt dk_X12_valueAction 15 rfl) 30 rfl 0 0 rfl rfl ?_
      refine x_if_eq C 35 (dkAt dk_X12_valueAction 16 rfl) 33 rfl (by decide) hf (fun hf => ?_) (fun hf => ?_)
      · refine x_aload_n C rfl rfl (dkAt dk_X12_valueAction 19 rfl) 36 rfl ?_
        refine x_iload_n C rfl rfl (dkAt dk_X12_valueAction 20 rfl) 37 rfl ?_
        obtain ⟨v8, M9, h13, hf⟩ := cl_inv hf
        refine x_cVv C (c_X12_laysWorths hN h13) mw_X12_laysWorths ln_RX12_321 mi_X12_laysWorths (hN.rc (ci := 12) sh108 rc12) (ro_of (by decide) (by decide) (by decide) (by decide)) rfl rfl (Nat.le_of_ble_eq_true rfl) (dkAt dk_X12_valueAction 21 rfl) 40 rfl 0 0 rfl rfl ?_
        refine x_aload_n C rfl rfl (dkAt dk_X12_valueAction 22 rfl) 41 rfl ?_
        refine x_iload_n C rfl rfl (dkAt dk_X12_valueAction 23 rfl) 42 rfl ?_
        refine x_iload_n C rfl rfl (dkAt dk_X12_valueAction 24 rfl) 43 rfl ?_
        obtain ⟨v10, M11, h12, hf⟩ := cl_inv hf
        refine x_cVi C (c_X12_worthiest hN h12) mw_X12_worthiest ln_RX12_316 mi_X12_worthiest (hN.rc (ci := 12) sh108 rc12) (ro_of (by decide) (by decide) (by decide) (by decide)) rfl rfl (Nat.le_of_ble_eq_true rfl) (dkAt dk_X12_valueAction 25 rfl) 46 rfl 0 0 rfl rfl ?_
        exact x_iret C E hf (by decide) (by decide) (dkAt dk_X12_valueAction 26 rfl)
      · refine x_iconst C (v := (0 : Int32)) (by decide) (dkAt dk_X12_valueAction 17 rfl) 34 rfl ?_
        exact x_iret C E hf (by decide) (by decide) (dkAt dk_X12_valueAction 18 rfl)
    · refine x_if_ne C 25 (dkAt dk_X12_valueAction 10 rfl) 21 rfl (by decide) hf (fun hf => ?_) (fun hf => ?_)
      · refine x_iconst C (v := (0 : Int32)) (by decide) (dkAt dk_X12_valueAction 13 rfl) 26 rfl ?_
        exact G.weak (L := [some (.ref (wad Γ 108)), some (.int p0), some (.int p1)]) ⟨rfl, rfl, rfl, trivial⟩ (hj15 _ hf)
      · refine x_iconst C (v := (1 : Int32)) (by decide) (dkAt dk_X12_valueAction 11 rfl) 22 rfl ?_
        refine x_goto C 26 (dkAt dk_X12_valueAction 12 rfl) (by decide) ?_
        exact G.weak (L := [some (.ref (wad Γ 108)), some (.int p0), some (.int p1)]) ⟨rfl, rfl, rfl, trivial⟩ (hj15 _ hf)
def f_X12_givesAll_L2 (Z : Nat) (p0 : Int32) (p1 : Int32) : Nat → Int32 → Mem → Option (Unit × Mem)
  | 0, _, _ => none
  | n + 1, x1, M2 => (if (3 : Int32) ≤ x1 then some ((), M2) else jn (fun (t3 : Int32) => wrI M2 109 54 (((4 : Int32) + ((3 : Int32) * p0)) + x1) t3 (fun M4 => f_X12_givesAll_L2 Z p0 p1 n (x1 + (1 : Int32)) M4)) (fun j5 => (if x1 = p1 then j5 (10 : Int32) else j5 (0 : Int32))))
def f_X12_givesAll (Z : Nat) (M : Mem) (p0 : Int32) (p1 : Int32) : Option (Unit × Mem) :=
  f_X12_givesAll_L2 Z p0 p1 Z (0 : Int32) M
set_option maxRecDepth 100000 in
theorem l_X12_givesAll_L2 {Γ : WC} {X : MX} (hN : HN Γ) (C : CX Γ X cX12_givesAll 4 RX12 none (rmL 0 0 0)) {rM : Unit × Mem} (E : EndN Γ X none rM.2 0 0) {Z : Nat} {p0 : Int32} {p1 : Int32} : ∀ (n : Nat) (x1 : Int32) (M2 : Mem), f_X12_givesAll_L2 Z p0 p1 n x1 M2 = some rM → G Γ X M2 0 0 [some (.ref (wad Γ 108)), some (.int p0), some (.int p1), some (.int x1)] [] 2 := by
  intro n
  induction n with
  | zero =>
    intro x1 M2 hf
    have hf0 : (none : Option _) = some rM := hf
    cases hf0
  | succ n ih =>
    intro x1 M2 hf
    rw [f_X12_givesAll_L2] at hf
    refine x_iload_n C rfl rfl (dkAt dk_X12_givesAll 2 rfl) 3 rfl ?_
    refine x_iconst C (v := (3 : Int32)) (by decide) (dkAt dk_X12_givesAll 3 rfl) 4 rfl ?_
    refine x_icmp_ge C 36 (dkAt dk_X12_givesAll 4 rfl) 7 rfl (by decide) hf (fun hf => ?_) (fun hf => ?_)
    · exact x_vret C E hf (by decide) (by decide) (dkAt dk_X12_givesAll 23 rfl)
    · refine x_aload_n C rfl rfl (dkAt dk_X12_givesAll 5 rfl) 8 rfl ?_
      refine x_getS C lk_RX12_7 (hN.sh sh108) (hN.sr sr108_2) (dkAt dk_X12_givesAll 6 rfl) 11 rfl ?_
      refine x_iconst C (v := (4 : Int32)) (by decide) (dkAt dk_X12_givesAll 7 rfl) 12 rfl ?_
      refine x_iconst C (v := (3 : Int32)) (by decide) (dkAt dk_X12_givesAll 8 rfl) 13 rfl ?_
      refine x_iload_n C rfl rfl (dkAt dk_X12_givesAll 9 rfl) 14 rfl ?_
      refine x_imul C (dkAt dk_X12_givesAll 10 rfl) 15 rfl ?_
      refine x_iadd C (dkAt dk_X12_givesAll 11 rfl) 16 rfl ?_
      refine x_iload_n C rfl rfl (dkAt dk_X12_givesAll 12 rfl) 17 rfl ?_
      refine x_iadd C (dkAt dk_X12_givesAll 13 rfl) 18 rfl ?_
      refine x_iload_n C rfl rfl (dkAt dk_X12_givesAll 14 rfl) 19 rfl ?_
      refine x_iload_n C rfl rfl (dkAt dk_X12_givesAll 15 rfl) 20 rfl ?_
      refine x_join hf (fun t3 => G Γ X M2 0 0 [some (.ref (wad Γ 108)), some (.int p0), some (.int p1), some (.int x1)] [.int t3, .int (((4 : Int32) + ((3 : Int32) * p0)) + x1), .ref (wad Γ 109)] 29) (fun t3 hf => ?_) (fun j5 hj5 hf => ?_)
      · refine x_iast C (hN.sh sh109) (dkAt dk_X12_givesAll 20 rfl) 30 rfl hf (fun M4 hf => ?_)
        refine x_iinc C (v := (x1 + (1 : Int32))) (L1 := [some (.ref (wad Γ 108)), some (.int p0), some (.int p1), some (.int (x1 + (1 : Int32)))]) (dkAt dk_X12_givesAll 21 rfl) 33 rfl rfl rfl (by decide) rfl ?_
        refine x_goto C 2 (dkAt dk_X12_givesAll 22 rfl) (by decide) ?_
        exact G.weak (L := [some (.ref (wad Γ 108)), some (.int p0), some (.int p1), some (.int (x1 + (1 : Int32)))]) ⟨rfl, rfl, rfl, rfl, trivial⟩ (ih _ _ hf)
      · refine x_icmp_ne C 28 (dkAt dk_X12_givesAll 16 rfl) 23 rfl (by decide) hf (fun hf => ?_) (fun hf => ?_)
        · refine x_iconst C (v := (0 : Int32)) (by decide) (dkAt dk_X12_givesAll 19 rfl) 29 rfl ?_
          exact G.weak (L := [some (.ref (wad Γ 108)), some (.int p0), some (.int p1), some (.int x1)]) ⟨rfl, rfl, rfl, rfl, trivial⟩ (hj5 _ hf)
        · refine x_bipush C (v := (10 : Int32)) (by decide) (dkAt dk_X12_givesAll 17 rfl) 25 rfl ?_
          refine x_goto C 29 (dkAt dk_X12_givesAll 18 rfl) (by decide) ?_
          exact G.weak (L := [some (.ref (wad Γ 108)), some (.int p0), some (.int p1), some (.int x1)]) ⟨rfl, rfl, rfl, rfl, trivial⟩ (hj5 _ hf)
set_option maxRecDepth 100000 in
theorem c_X12_givesAll {Γ : WC} (hN : HN Γ) {Z : Nat} {M : Mem} {p0 : Int32} {p1 : Int32} {rM : Unit × Mem}  (hf : f_X12_givesAll Z M p0 p1 = some rM) : Ct Γ yX12_givesAll cX12_givesAll 4 none (rmL 0 0 0) [.ref (wad Γ 108), .int p0, .int p1] M none rM.2 := by
  refine mkN hN.1 (own := RX12) rfl (by decide) (Nat.le_of_ble_eq_true rfl) (fun X C E => ?_)
  change G Γ X M 0 0 [some (.ref (wad Γ 108)), some (.int p0), some (.int p1)] [] 0
  unfold f_X12_givesAll at hf
  refine x_iconst C (v := (0 : Int32)) (by decide) (dkAt dk_X12_givesAll 0 rfl) 1 rfl ?_
  refine x_istore_n C (L1 := [some (.ref (wad Γ 108)), some (.int p0), some (.int p1), some (.int (0 : Int32))]) (dkAt dk_X12_givesAll 1 rfl) 2 rfl rfl (by decide) rfl ?_
  refine G.weak (L := [some (.ref (wad Γ 108)), some (.int p0), some (.int p1), some (.int (0 : Int32))]) ⟨rfl, rfl, rfl, rfl, trivial⟩ ?_
  refine l_X12_givesAll_L2 hN C E Z _ _ hf
def f_X12_turns_L9 (Z : Nat) : Nat → Int32 → Mem → Option (Int32 × Mem)
  | 0, _, _ => none
  | n + 1, x2, M3 => (if x2 < 0 then some ((0 : Int32), M3) else rdI M3 121 6 x2 (fun v4 => wrI M3 121 6 x2 (v4 + (1 : Int32)) (fun M5 => rdI M5 121 6 x2 (fun v6 => rdI M5 112 344 ((8 : Int32) + x2) (fun v7 => (if v7 ≤ v6 then wrI M5 121 6 x2 (0 : Int32) (fun M8 => f_X12_turns_L9 Z n (x2 + (-1 : Int32)) M8) else some ((1 : Int32), M5)))))))
def f_X12_turns (Z : Nat) (M : Mem)  : Option (Int32 × Mem) :=
  rdI M 112 344 (0 : Int32) (fun v1 => f_X12_turns_L9 Z Z (v1 - (1 : Int32)) M)
set_option maxRecDepth 100000 in
theorem l_X12_turns_L9 {Γ : WC} {X : MX} (hN : HN Γ) (C : CX Γ X cX12_turns 2 RX12 (some .boolean) (rmL 0 0 0)) {rM : Int32 × Mem} (E : EndN Γ X (some (.int rM.1)) rM.2 0 0) {Z : Nat} : ∀ (n : Nat) (x2 : Int32) (M3 : Mem), f_X12_turns_L9 Z n x2 M3 = some rM → G Γ X M3 0 0 [some (.ref (wad Γ 108)), some (.int x2)] [] 9 := by
  intro n
  induction n with
  | zero =>
    intro x2 M3 hf
    have hf0 : (none : Option _) = some rM := hf
    cases hf0
  | succ n ih =>
    intro x2 M3 hf
    rw [f_X12_turns_L9] at hf
    refine x_iload_n C rfl rfl (dkAt dk_X12_turns 7 rfl) 10 rfl ?_
    refine x_if_lt C 56 (dkAt dk_X12_turns 8 rfl) 13 rfl (by decide) hf (fun hf => ?_) (fun hf => ?_)
    · refine x_iconst C (v := (0 : Int32)) (by decide) (dkAt dk_X12_turns 37 rfl) 57 rfl ?_
      exact x_zret C E (by decide) hf (by decide) (by decide) (dkAt dk_X12_turns 38 rfl)
    · refine x_aload_n C rfl rfl (dkAt dk_X12_turns 9 rfl) 14 rfl ?_
      refine x_getS C lk_RX12_52 (hN.sh sh108) (hN.sr sr108_26) (dkAt dk_X12_turns 10 rfl) 17 rfl ?_
      refine x_iload_n C rfl rfl (dkAt dk_X12_turns 11 rfl) 18 rfl ?_
      refine x_dup2 C rfl rfl (dkAt dk_X12_turns 12 rfl) 19 rfl ?_
      refine x_iald C (hN.sh sh121) (dkAt dk_X12_turns 13 rfl) 20 rfl hf (fun v4 hf => ?_)
      refine x_iconst C (v := (1 : Int32)) (by decide) (dkAt dk_X12_turns 14 rfl) 21 rfl ?_
      refine x_iadd C (dkAt dk_X12_turns 15 rfl) 22 rfl ?_
      refine x_iast C (hN.sh sh121) (dkAt dk_X12_turns 16 rfl) 23 rfl hf (fun M5 hf => ?_)
      refine x_aload_n C rfl rfl (dkAt dk_X12_turns 17 rfl) 24 rfl ?_
      refine x_getS C lk_RX12_52 (hN.sh sh108) (hN.sr sr108_26) (dkAt dk_X12_turns 18 rfl) 27 rfl ?_
      refine x_iload_n C rfl rfl (dkAt dk_X12_turns 19 rfl) 28 rfl ?_
      refine x_iald C (hN.sh sh121) (dkAt dk_X12_turns 20 rfl) 29 rfl hf (fun v6 hf => ?_)
      refine x_aload_n C rfl rfl (dkAt dk_X12_turns 21 rfl) 30 rfl ?_
      refine x_getS C lk_RX12_20 (hN.sh sh108) (hN.sr sr108_6) (dkAt dk_X12_turns 22 rfl) 33 rfl ?_
      refine x_bipush C (v := (8 : Int32)) (by decide) (dkAt dk_X12_turns 23 rfl) 35 rfl ?_
      refine x_iload_n C rfl rfl (dkAt dk_X12_turns 24 rfl) 36 rfl ?_
      refine x_iadd C (dkAt dk_X12_turns 25 rfl) 37 rfl ?_
      refine x_iald C (hN.sh sh112) (dkAt dk_X12_turns 26 rfl) 38 rfl hf (fun v7 hf => ?_)
      refine x_icmp_ge C 43 (dkAt dk_X12_turns 27 rfl) 41 rfl (by decide) hf (fun hf => ?_) (fun hf => ?_)
      · refine x_aload_n C rfl rfl (dkAt dk_X12_turns 30 rfl) 44 rfl ?_
        refine x_getS C lk_RX12_52 (hN.sh sh108) (hN.sr sr108_26) (dkAt dk_X12_turns 31 rfl) 47 rfl ?_
        refine x_iload_n C rfl rfl (dkAt dk_X12_turns 32 rfl) 48 rfl ?_
        refine x_iconst C (v := (0 : Int32)) (by decide) (dkAt dk_X12_turns 33 rfl) 49 rfl ?_
        refine x_iast C (hN.sh sh121) (dkAt dk_X12_turns 34 rfl) 50 rfl hf (fun M8 hf => ?_)
        refine x_iinc C (v := (x2 + (-1 : Int32))) (L1 := [some (.ref (wad Γ 108)), some (.int (x2 + (-1 : Int32)))]) (dkAt dk_X12_turns 35 rfl) 53 rfl rfl rfl (by decide) rfl ?_
        refine x_goto C 9 (dkAt dk_X12_turns 36 rfl) (by decide) ?_
        exact G.weak (L := [some (.ref (wad Γ 108)), some (.int (x2 + (-1 : Int32)))]) ⟨rfl, rfl, trivial⟩ (ih _ _ hf)
      · refine x_iconst C (v := (1 : Int32)) (by decide) (dkAt dk_X12_turns 28 rfl) 42 rfl ?_
        exact x_zret C E (by decide) hf (by decide) (by decide) (dkAt dk_X12_turns 29 rfl)
set_option maxRecDepth 100000 in
theorem c_X12_turns {Γ : WC} (hN : HN Γ) {Z : Nat} {M : Mem}  {rM : Int32 × Mem}  (hf : f_X12_turns Z M  = some rM) : Ct Γ yX12_turns cX12_turns 2 (some .boolean) (rmL 0 0 0) [.ref (wad Γ 108)] M (some (.int rM.1)) rM.2 := by
  refine mkN hN.1 (own := RX12) rfl (by decide) (Nat.le_of_ble_eq_true rfl) (fun X C E => ?_)
  change G Γ X M 0 0 [some (.ref (wad Γ 108))] [] 0
  unfold f_X12_turns at hf
  refine x_aload_n C rfl rfl (dkAt dk_X12_turns 0 rfl) 1 rfl ?_
  refine x_getS C lk_RX12_20 (hN.sh sh108) (hN.sr sr108_6) (dkAt dk_X12_turns 1 rfl) 4 rfl ?_
  refine x_iconst C (v := (0 : Int32)) (by decide) (dkAt dk_X12_turns 2 rfl) 5 rfl ?_
  refine x_iald C (hN.sh sh112) (dkAt dk_X12_turns 3 rfl) 6 rfl hf (fun v1 hf => ?_)
  refine x_iconst C (v := (1 : Int32)) (by decide) (dkAt dk_X12_turns 4 rfl) 7 rfl ?_
  refine x_isub C (dkAt dk_X12_turns 5 rfl) 8 rfl ?_
  refine x_istore_n C (L1 := [some (.ref (wad Γ 108)), some (.int (v1 - (1 : Int32)))]) (dkAt dk_X12_turns 6 rfl) 9 rfl rfl (by decide) rfl ?_
  refine G.weak (L := [some (.ref (wad Γ 108)), some (.int (v1 - (1 : Int32)))]) ⟨rfl, rfl, trivial⟩ ?_
  refine l_X12_turns_L9 hN C E Z _ _ hf
def f_X12_isAllowed_L2 (Z : Nat) : Nat → Int32 → Mem → Option (Int32 × Mem)
  | 0, _, _ => none
  | n + 1, x1, M2 => rdI M2 112 344 (0 : Int32) (fun v3 => (if v3 ≤ x1 then some ((1 : Int32), M2) else rdI M2 121 6 x1 (fun v4 => cl (f_X12_isPermittedNow Z M2 x1 v4) (fun v5 M6 => (if v5 = 0 then some ((0 : Int32), M6) else f_X12_isAllowed_L2 Z n (x1 + (1 : Int32)) M6)))))
def f_X12_isAllowed (Z : Nat) (M : Mem)  : Option (Int32 × Mem) :=
  f_X12_isAllowed_L2 Z Z (0 : Int32) M
set_option maxRecDepth 100000 in
theorem l_X12_isAllowed_L2 {Γ : WC} {X : MX} (hN : HN Γ) (C : CX Γ X cX12_isAllowed 2 RX12 (some .boolean) (rmL 1 0 0)) {rM : Int32 × Mem} (E : EndN Γ X (some (.int rM.1)) rM.2 0 0) {Z : Nat} : ∀ (n : Nat) (x1 : Int32) (M2 : Mem), f_X12_isAllowed_L2 Z n x1 M2 = some rM → G Γ X M2 0 0 [some (.ref (wad Γ 108)), some (.int x1)] [] 2 := by
  intro n
  induction n with
  | zero =>
    intro x1 M2 hf
    have hf0 : (none : Option _) = some rM := hf
    cases hf0
  | succ n ih =>
    intro x1 M2 hf
    rw [f_X12_isAllowed_L2] at hf
    refine x_iload_n C rfl rfl (dkAt dk_X12_isAllowed 2 rfl) 3 rfl ?_
    refine x_aload_n C rfl rfl (dkAt dk_X12_isAllowed 3 rfl) 4 rfl ?_
    refine x_getS C lk_RX12_20 (hN.sh sh108) (hN.sr sr108_6) (dkAt dk_X12_isAllowed 4 rfl) 7 rfl ?_
    refine x_iconst C (v := (0 : Int32)) (by decide) (dkAt dk_X12_isAllowed 5 rfl) 8 rfl ?_
    refine x_iald C (hN.sh sh112) (dkAt dk_X12_isAllowed 6 rfl) 9 rfl hf (fun v3 hf => ?_)
    refine x_icmp_ge C 34 (dkAt dk_X12_isAllowed 7 rfl) 12 rfl (by decide) hf (fun hf => ?_) (fun hf => ?_)
    · refine x_iconst C (v := (1 : Int32)) (by decide) (dkAt dk_X12_isAllowed 20 rfl) 35 rfl ?_
      exact x_zret C E (by decide) hf (by decide) (by decide) (dkAt dk_X12_isAllowed 21 rfl)
    · refine x_aload_n C rfl rfl (dkAt dk_X12_isAllowed 8 rfl) 13 rfl ?_
      refine x_iload_n C rfl rfl (dkAt dk_X12_isAllowed 9 rfl) 14 rfl ?_
      refine x_aload_n C rfl rfl (dkAt dk_X12_isAllowed 10 rfl) 15 rfl ?_
      refine x_getS C lk_RX12_52 (hN.sh sh108) (hN.sr sr108_26) (dkAt dk_X12_isAllowed 11 rfl) 18 rfl ?_
      refine x_iload_n C rfl rfl (dkAt dk_X12_isAllowed 12 rfl) 19 rfl ?_
      refine x_iald C (hN.sh sh121) (dkAt dk_X12_isAllowed 13 rfl) 20 rfl hf (fun v4 hf => ?_)
      obtain ⟨v5, M6, h7, hf⟩ := cl_inv hf
      refine x_cVi C (c_X12_isPermittedNow hN h7) mw_X12_isPermittedNow ln_RX12_255 mi_X12_isPermittedNow (hN.rc (ci := 12) sh108 rc12) (ro_of (by decide) (by decide) (by decide) (by decide)) rfl rfl (Nat.le_of_ble_eq_true rfl) (dkAt dk_X12_isAllowed 14 rfl) 23 rfl 0 0 rfl rfl ?_
      refine x_if_ne C 28 (dkAt dk_X12_isAllowed 15 rfl) 26 rfl (by decide) hf (fun hf => ?_) (fun hf => ?_)
      · refine x_iinc C (v := (x1 + (1 : Int32))) (L1 := [some (.ref (wad Γ 108)), some (.int (x1 + (1 : Int32)))]) (dkAt dk_X12_isAllowed 18 rfl) 31 rfl rfl rfl (by decide) rfl ?_
        refine x_goto C 2 (dkAt dk_X12_isAllowed 19 rfl) (by decide) ?_
        exact G.weak (L := [some (.ref (wad Γ 108)), some (.int (x1 + (1 : Int32)))]) ⟨rfl, rfl, trivial⟩ (ih _ _ hf)
      · refine x_iconst C (v := (0 : Int32)) (by decide) (dkAt dk_X12_isAllowed 16 rfl) 27 rfl ?_
        exact x_zret C E (by decide) hf (by decide) (by decide) (dkAt dk_X12_isAllowed 17 rfl)
set_option maxRecDepth 100000 in
theorem c_X12_isAllowed {Γ : WC} (hN : HN Γ) {Z : Nat} {M : Mem}  {rM : Int32 × Mem}  (hf : f_X12_isAllowed Z M  = some rM) : Ct Γ yX12_isAllowed cX12_isAllowed 2 (some .boolean) (rmL 1 0 0) [.ref (wad Γ 108)] M (some (.int rM.1)) rM.2 := by
  refine mkN hN.1 (own := RX12) rfl (by decide) (Nat.le_of_ble_eq_true rfl) (fun X C E => ?_)
  change G Γ X M 0 0 [some (.ref (wad Γ 108))] [] 0
  unfold f_X12_isAllowed at hf
  refine x_iconst C (v := (0 : Int32)) (by decide) (dkAt dk_X12_isAllowed 0 rfl) 1 rfl ?_
  refine x_istore_n C (L1 := [some (.ref (wad Γ 108)), some (.int (0 : Int32))]) (dkAt dk_X12_isAllowed 1 rfl) 2 rfl rfl (by decide) rfl ?_
  refine G.weak (L := [some (.ref (wad Γ 108)), some (.int (0 : Int32))]) ⟨rfl, rfl, trivial⟩ ?_
  refine l_X12_isAllowed_L2 hN C E Z _ _ hf
def f_X12_keeps_L2 (Z : Nat) (p0 : Int32) : Nat → Int32 → Mem → Option (Unit × Mem)
  | 0, _, _ => none
  | n + 1, x1, M2 => (if (54 : Int32) ≤ x1 then some ((), M2) else rdI M2 109 54 x1 (fun v3 => wrI M2 110 540 (((54 : Int32) * p0) + x1) v3 (fun M4 => f_X12_keeps_L2 Z p0 n (x1 + (1 : Int32)) M4)))
def f_X12_keeps (Z : Nat) (M : Mem) (p0 : Int32) : Option (Unit × Mem) :=
  f_X12_keeps_L2 Z p0 Z (0 : Int32) M
set_option maxRecDepth 100000 in
theorem l_X12_keeps_L2 {Γ : WC} {X : MX} (hN : HN Γ) (C : CX Γ X cX12_keeps 3 RX12 none (rmL 0 0 0)) {rM : Unit × Mem} (E : EndN Γ X none rM.2 0 0) {Z : Nat} {p0 : Int32} : ∀ (n : Nat) (x1 : Int32) (M2 : Mem), f_X12_keeps_L2 Z p0 n x1 M2 = some rM → G Γ X M2 0 0 [some (.ref (wad Γ 108)), some (.int p0), some (.int x1)] [] 2 := by
  intro n
  induction n with
  | zero =>
    intro x1 M2 hf
    have hf0 : (none : Option _) = some rM := hf
    cases hf0
  | succ n ih =>
    intro x1 M2 hf
    rw [f_X12_keeps_L2] at hf
    refine x_iload_n C rfl rfl (dkAt dk_X12_keeps 2 rfl) 3 rfl ?_
    refine x_bipush C (v := (54 : Int32)) (by decide) (dkAt dk_X12_keeps 3 rfl) 5 rfl ?_
    refine x_icmp_ge C 31 (dkAt dk_X12_keeps 4 rfl) 8 rfl (by decide) hf (fun hf => ?_) (fun hf => ?_)
    · exact x_vret C E hf (by decide) (by decide) (dkAt dk_X12_keeps 19 rfl)
    · refine x_aload_n C rfl rfl (dkAt dk_X12_keeps 5 rfl) 9 rfl ?_
      refine x_getS C lk_RX12_13 (hN.sh sh108) (hN.sr sr108_3) (dkAt dk_X12_keeps 6 rfl) 12 rfl ?_
      refine x_bipush C (v := (54 : Int32)) (by decide) (dkAt dk_X12_keeps 7 rfl) 14 rfl ?_
      refine x_iload_n C rfl rfl (dkAt dk_X12_keeps 8 rfl) 15 rfl ?_
      refine x_imul C (dkAt dk_X12_keeps 9 rfl) 16 rfl ?_
      refine x_iload_n C rfl rfl (dkAt dk_X12_keeps 10 rfl) 17 rfl ?_
      refine x_iadd C (dkAt dk_X12_keeps 11 rfl) 18 rfl ?_
      refine x_aload_n C rfl rfl (dkAt dk_X12_keeps 12 rfl) 19 rfl ?_
      refine x_getS C lk_RX12_7 (hN.sh sh108) (hN.sr sr108_2) (dkAt dk_X12_keeps 13 rfl) 22 rfl ?_
      refine x_iload_n C rfl rfl (dkAt dk_X12_keeps 14 rfl) 23 rfl ?_
      refine x_iald C (hN.sh sh109) (dkAt dk_X12_keeps 15 rfl) 24 rfl hf (fun v3 hf => ?_)
      refine x_iast C (hN.sh sh110) (dkAt dk_X12_keeps 16 rfl) 25 rfl hf (fun M4 hf => ?_)
      refine x_iinc C (v := (x1 + (1 : Int32))) (L1 := [some (.ref (wad Γ 108)), some (.int p0), some (.int (x1 + (1 : Int32)))]) (dkAt dk_X12_keeps 17 rfl) 28 rfl rfl rfl (by decide) rfl ?_
      refine x_goto C 2 (dkAt dk_X12_keeps 18 rfl) (by decide) ?_
      exact G.weak (L := [some (.ref (wad Γ 108)), some (.int p0), some (.int (x1 + (1 : Int32)))]) ⟨rfl, rfl, rfl, trivial⟩ (ih _ _ hf)
set_option maxRecDepth 100000 in
theorem c_X12_keeps {Γ : WC} (hN : HN Γ) {Z : Nat} {M : Mem} {p0 : Int32} {rM : Unit × Mem}  (hf : f_X12_keeps Z M p0 = some rM) : Ct Γ yX12_keeps cX12_keeps 3 none (rmL 0 0 0) [.ref (wad Γ 108), .int p0] M none rM.2 := by
  refine mkN hN.1 (own := RX12) rfl (by decide) (Nat.le_of_ble_eq_true rfl) (fun X C E => ?_)
  change G Γ X M 0 0 [some (.ref (wad Γ 108)), some (.int p0)] [] 0
  unfold f_X12_keeps at hf
  refine x_iconst C (v := (0 : Int32)) (by decide) (dkAt dk_X12_keeps 0 rfl) 1 rfl ?_
  refine x_istore_n C (L1 := [some (.ref (wad Γ 108)), some (.int p0), some (.int (0 : Int32))]) (dkAt dk_X12_keeps 1 rfl) 2 rfl rfl (by decide) rfl ?_
  refine G.weak (L := [some (.ref (wad Γ 108)), some (.int p0), some (.int (0 : Int32))]) ⟨rfl, rfl, rfl, trivial⟩ ?_
  refine l_X12_keeps_L2 hN C E Z _ _ hf
def f_X12_beginsPure_L7 (Z : Nat) : Nat → Int32 → Mem → Option (Unit × Mem)
  | 0, _, _ => none
  | n + 1, x3, M4 => rdI M4 112 344 (0 : Int32) (fun v5 => (if v5 ≤ x3 then some ((), M4) else wrI M4 121 6 x3 (0 : Int32) (fun M6 => f_X12_beginsPure_L7 Z n (x3 + (1 : Int32)) M6)))
def f_X12_beginsPure (Z : Nat) (M : Mem)  : Option (Unit × Mem) :=
  cl (f_X12_keeps Z M (0 : Int32)) (fun v1 M2 => f_X12_beginsPure_L7 Z Z (0 : Int32) M2)
set_option maxRecDepth 100000 in
theorem l_X12_beginsPure_L7 {Γ : WC} {X : MX} (hN : HN Γ) (C : CX Γ X cX12_beginsPure 2 RX12 none (rmL 1 0 0)) {rM : Unit × Mem} (E : EndN Γ X none rM.2 0 0) {Z : Nat} : ∀ (n : Nat) (x3 : Int32) (M4 : Mem), f_X12_beginsPure_L7 Z n x3 M4 = some rM → G Γ X M4 0 0 [some (.ref (wad Γ 108)), some (.int x3)] [] 7 := by
  intro n
  induction n with
  | zero =>
    intro x3 M4 hf
    have hf0 : (none : Option _) = some rM := hf
    cases hf0
  | succ n ih =>
    intro x3 M4 hf
    rw [f_X12_beginsPure_L7] at hf
    refine x_iload_n C rfl rfl (dkAt dk_X12_beginsPure 5 rfl) 8 rfl ?_
    refine x_aload_n C rfl rfl (dkAt dk_X12_beginsPure 6 rfl) 9 rfl ?_
    refine x_getS C lk_RX12_20 (hN.sh sh108) (hN.sr sr108_6) (dkAt dk_X12_beginsPure 7 rfl) 12 rfl ?_
    refine x_iconst C (v := (0 : Int32)) (by decide) (dkAt dk_X12_beginsPure 8 rfl) 13 rfl ?_
    refine x_iald C (hN.sh sh112) (dkAt dk_X12_beginsPure 9 rfl) 14 rfl hf (fun v5 hf => ?_)
    refine x_icmp_ge C 30 (dkAt dk_X12_beginsPure 10 rfl) 17 rfl (by decide) hf (fun hf => ?_) (fun hf => ?_)
    · exact x_vret C E hf (by decide) (by decide) (dkAt dk_X12_beginsPure 18 rfl)
    · refine x_aload_n C rfl rfl (dkAt dk_X12_beginsPure 11 rfl) 18 rfl ?_
      refine x_getS C lk_RX12_52 (hN.sh sh108) (hN.sr sr108_26) (dkAt dk_X12_beginsPure 12 rfl) 21 rfl ?_
      refine x_iload_n C rfl rfl (dkAt dk_X12_beginsPure 13 rfl) 22 rfl ?_
      refine x_iconst C (v := (0 : Int32)) (by decide) (dkAt dk_X12_beginsPure 14 rfl) 23 rfl ?_
      refine x_iast C (hN.sh sh121) (dkAt dk_X12_beginsPure 15 rfl) 24 rfl hf (fun M6 hf => ?_)
      refine x_iinc C (v := (x3 + (1 : Int32))) (L1 := [some (.ref (wad Γ 108)), some (.int (x3 + (1 : Int32)))]) (dkAt dk_X12_beginsPure 16 rfl) 27 rfl rfl rfl (by decide) rfl ?_
      refine x_goto C 7 (dkAt dk_X12_beginsPure 17 rfl) (by decide) ?_
      exact G.weak (L := [some (.ref (wad Γ 108)), some (.int (x3 + (1 : Int32)))]) ⟨rfl, rfl, trivial⟩ (ih _ _ hf)
set_option maxRecDepth 100000 in
theorem c_X12_beginsPure {Γ : WC} (hN : HN Γ) {Z : Nat} {M : Mem}  {rM : Unit × Mem}  (hf : f_X12_beginsPure Z M  = some rM) : Ct Γ yX12_beginsPure cX12_beginsPure 2 none (rmL 1 0 0) [.ref (wad Γ 108)] M none rM.2 := by
  refine mkN hN.1 (own := RX12) rfl (by decide) (Nat.le_of_ble_eq_true rfl) (fun X C E => ?_)
  change G Γ X M 0 0 [some (.ref (wad Γ 108))] [] 0
  unfold f_X12_beginsPure at hf
  refine x_aload_n C rfl rfl (dkAt dk_X12_beginsPure 0 rfl) 1 rfl ?_
  refine x_iconst C (v := (0 : Int32)) (by decide) (dkAt dk_X12_beginsPure 1 rfl) 2 rfl ?_
  obtain ⟨v1, M2, h7, hf⟩ := cl_inv hf
  refine x_cVv C (c_X12_keeps hN h7) mw_X12_keeps ln_RX12_324 mi_X12_keeps (hN.rc (ci := 12) sh108 rc12) (ro_of (by decide) (by decide) (by decide) (by decide)) rfl rfl (Nat.le_of_ble_eq_true rfl) (dkAt dk_X12_beginsPure 2 rfl) 5 rfl 0 0 rfl rfl ?_
  refine x_iconst C (v := (0 : Int32)) (by decide) (dkAt dk_X12_beginsPure 3 rfl) 6 rfl ?_
  refine x_istore_n C (L1 := [some (.ref (wad Γ 108)), some (.int (0 : Int32))]) (dkAt dk_X12_beginsPure 4 rfl) 7 rfl rfl (by decide) rfl ?_
  refine G.weak (L := [some (.ref (wad Γ 108)), some (.int (0 : Int32))]) ⟨rfl, rfl, trivial⟩ ?_
  refine l_X12_beginsPure_L7 hN C E Z _ _ hf
