def f_X12_thrown (Z : Nat) (M : Mem)  : Option (Int32 × Mem) :=
  bd (gI M (108) 0) (fun v1 => some (v1, M))
set_option maxRecDepth 100000 in
theorem c_X12_thrown {Γ : WC} (hN : HN Γ) {Z : Nat} {M : Mem}  {rM : Int32 × Mem}  (hf : f_X12_thrown Z M  = some rM) : Ct Γ yX12_thrown cX12_thrown 1 (some .int) (rmL 0 0 0) [.ref (wad Γ 108)] M (some (.int rM.1)) rM.2 := by
  refine mkN hN.1 (own := RX12) rfl (by decide) (Nat.le_of_ble_eq_true rfl) (fun X C E => ?_)
  change G Γ X M 0 0 [some (.ref (wad Γ 108))] [] 0
  unfold f_X12_thrown at hf
  refine x_aload_n C rfl rfl (dkAt dk_X12_thrown 0 rfl) 1 rfl ?_
  refine x_getI C lk_RX12_61 (hN.sh sh108) (dkAt dk_X12_thrown 1 rfl) 4 rfl hf (fun v1 hf => ?_)
  exact x_iret C E hf (by decide) (by decide) (dkAt dk_X12_thrown 2 rfl)
def f_X12_in (Z : Nat) (M : Mem) (p0 : Int64) (p1 : Int64) (p2 : Int64) : Option (Int32 × Mem) :=
  (if p0 < p1 then some ((0 : Int32), M) else (if p2 < p0 then some ((0 : Int32), M) else some ((1 : Int32), M)))
set_option maxRecDepth 100000 in
theorem c_X12_in {Γ : WC} (hN : HN Γ) {Z : Nat} {M : Mem} {p0 : Int64} {p1 : Int64} {p2 : Int64} {rM : Int32 × Mem}  (hf : f_X12_in Z M p0 p1 p2 = some rM) : Ct Γ yX12_in cX12_in 6 (some .boolean) (rmL 0 0 0) [.long p0, .long p1, .long p2] M (some (.int rM.1)) rM.2 := by
  refine mkN hN.1 (own := RX12) rfl (by decide) (Nat.le_of_ble_eq_true rfl) (fun X C E => ?_)
  change G Γ X M 0 0 [some (.long p0), none, some (.long p1), none, some (.long p2), none] [] 0
  unfold f_X12_in at hf
  refine x_lload_n C rfl rfl (dkAt dk_X12_in 0 rfl) 1 rfl ?_
  refine x_lload_n C rfl rfl (dkAt dk_X12_in 1 rfl) 2 rfl ?_
  refine x_lcmp_lt C 17 (dkAt dk_X12_in 2 rfl) 6 rfl (dkAt dk_X12_in 3 rfl) (by decide) hf (fun hf => ?_) (fun hf => ?_)
  · refine x_iconst C (v := (0 : Int32)) (by decide) (dkAt dk_X12_in 10 rfl) 18 rfl ?_
    exact x_zret C E (by decide) hf (by decide) (by decide) (dkAt dk_X12_in 11 rfl)
  · refine x_lload_n C rfl rfl (dkAt dk_X12_in 4 rfl) 7 rfl ?_
    refine x_lload C rfl (dkAt dk_X12_in 5 rfl) 9 rfl ?_
    refine x_lcmp_gt C 17 (dkAt dk_X12_in 6 rfl) 13 rfl (dkAt dk_X12_in 7 rfl) (by decide) hf (fun hf => ?_) (fun hf => ?_)
    · refine x_iconst C (v := (0 : Int32)) (by decide) (dkAt dk_X12_in 10 rfl) 18 rfl ?_
      exact x_zret C E (by decide) hf (by decide) (by decide) (dkAt dk_X12_in 11 rfl)
    · refine x_iconst C (v := (1 : Int32)) (by decide) (dkAt dk_X12_in 8 rfl) 14 rfl ?_
      refine x_goto C 18 (dkAt dk_X12_in 9 rfl) (by decide) ?_
      exact x_zret C E (by decide) hf (by decide) (by decide) (dkAt dk_X12_in 11 rfl)
def f_X12_refuse (Z : Nat) (M : Mem) (p0 : Int32) (p1 : Int32) : Option (Int32 × Mem) :=
  bd (gI M (108) 0) (fun v1 => jn (fun (t2 : Mem) => bd (gI t2 (108) 0) (fun v3 => (if v3 = 0 then some ((0 : Int32), t2) else some ((1 : Int32), t2)))) (fun j4 => (if v1 = 0 then (if p0 = 0 then j4 M else bd (sI M (108) 0 p1) (fun M5 => j4 M5)) else j4 M)))
set_option maxRecDepth 100000 in
theorem c_X12_refuse {Γ : WC} (hN : HN Γ) {Z : Nat} {M : Mem} {p0 : Int32} {p1 : Int32} {rM : Int32 × Mem}  (hf : f_X12_refuse Z M p0 p1 = some rM) : Ct Γ yX12_refuse cX12_refuse 3 (some .boolean) (rmL 0 0 0) [.ref (wad Γ 108), .int p0, .int p1] M (some (.int rM.1)) rM.2 := by
  refine mkN hN.1 (own := RX12) rfl (by decide) (Nat.le_of_ble_eq_true rfl) (fun X C E => ?_)
  change G Γ X M 0 0 [some (.ref (wad Γ 108)), some (.int p0), some (.int p1)] [] 0
  unfold f_X12_refuse at hf
  refine x_aload_n C rfl rfl (dkAt dk_X12_refuse 0 rfl) 1 rfl ?_
  refine x_getI C lk_RX12_61 (hN.sh sh108) (dkAt dk_X12_refuse 1 rfl) 4 rfl hf (fun v1 hf => ?_)
  refine x_join hf (fun t2 => G Γ X t2 0 0 [some (.ref (wad Γ 108))] [] 16) (fun t2 hf => ?_) (fun j4 hj4 hf => ?_)
  · refine x_aload_n C rfl rfl (dkAt dk_X12_refuse 8 rfl) 17 rfl ?_
    refine x_getI C lk_RX12_61 (hN.sh sh108) (dkAt dk_X12_refuse 9 rfl) 20 rfl hf (fun v3 hf => ?_)
    refine x_if_eq C 27 (dkAt dk_X12_refuse 10 rfl) 23 rfl (by decide) hf (fun hf => ?_) (fun hf => ?_)
    · refine x_iconst C (v := (0 : Int32)) (by decide) (dkAt dk_X12_refuse 13 rfl) 28 rfl ?_
      exact x_zret C E (by decide) hf (by decide) (by decide) (dkAt dk_X12_refuse 14 rfl)
    · refine x_iconst C (v := (1 : Int32)) (by decide) (dkAt dk_X12_refuse 11 rfl) 24 rfl ?_
      refine x_goto C 28 (dkAt dk_X12_refuse 12 rfl) (by decide) ?_
      exact x_zret C E (by decide) hf (by decide) (by decide) (dkAt dk_X12_refuse 14 rfl)
  · refine x_if_ne C 16 (dkAt dk_X12_refuse 2 rfl) 7 rfl (by decide) hf (fun hf => ?_) (fun hf => ?_)
    · exact G.weak (L := [some (.ref (wad Γ 108))]) ⟨rfl, trivial⟩ (hj4 _ hf)
    · refine x_iload_n C rfl rfl (dkAt dk_X12_refuse 3 rfl) 8 rfl ?_
      refine x_if_eq C 16 (dkAt dk_X12_refuse 4 rfl) 11 rfl (by decide) hf (fun hf => ?_) (fun hf => ?_)
      · exact G.weak (L := [some (.ref (wad Γ 108))]) ⟨rfl, trivial⟩ (hj4 _ hf)
      · refine x_aload_n C rfl rfl (dkAt dk_X12_refuse 5 rfl) 12 rfl ?_
        refine x_iload_n C rfl rfl (dkAt dk_X12_refuse 6 rfl) 13 rfl ?_
        refine x_putI C pk_RX12_61 ⟨_, rfl⟩ (hN.sh sh108) (dkAt dk_X12_refuse 7 rfl) 16 rfl hf (fun M5 hf => ?_)
        exact G.weak (L := [some (.ref (wad Γ 108))]) ⟨rfl, trivial⟩ (hj4 _ hf)
def f_X12_noChain (Z : Nat) (M : Mem)  : Option (Int32 × Mem) :=
  bd (sI M (108) 0 (0 : Int32)) (fun M1 => bd (gI M1 (108) 1) (fun v2 => jn (fun (t3 : Int32) => cl (f_X12_refuse Z M1 t3 (1 : Int32)) (fun v4 M5 => (if v4 &&& 1 = v4 then some (v4, M5) else none))) (fun j7 => (if v2 = 0 then j7 (1 : Int32) else j7 (0 : Int32)))))
set_option maxRecDepth 100000 in
theorem c_X12_noChain {Γ : WC} (hN : HN Γ) {Z : Nat} {M : Mem}  {rM : Int32 × Mem}  (hf : f_X12_noChain Z M  = some rM) : Ct Γ yX12_noChain cX12_noChain 1 (some .boolean) (rmL 1 0 0) [.ref (wad Γ 108)] M (some (.int rM.1)) rM.2 := by
  refine mkN hN.1 (own := RX12) rfl (by decide) (Nat.le_of_ble_eq_true rfl) (fun X C E => ?_)
  change G Γ X M 0 0 [some (.ref (wad Γ 108))] [] 0
  unfold f_X12_noChain at hf
  refine x_aload_n C rfl rfl (dkAt dk_X12_noChain 0 rfl) 1 rfl ?_
  refine x_iconst C (v := (0 : Int32)) (by decide) (dkAt dk_X12_noChain 1 rfl) 2 rfl ?_
  refine x_putI C pk_RX12_61 ⟨_, rfl⟩ (hN.sh sh108) (dkAt dk_X12_noChain 2 rfl) 5 rfl hf (fun M1 hf => ?_)
  refine x_aload_n C rfl rfl (dkAt dk_X12_noChain 3 rfl) 6 rfl ?_
  refine x_aload_n C rfl rfl (dkAt dk_X12_noChain 4 rfl) 7 rfl ?_
  refine x_getI C lk_RX12_64 (hN.sh sh108) (dkAt dk_X12_noChain 5 rfl) 10 rfl hf (fun v2 hf => ?_)
  refine x_join hf (fun t3 => G Γ X M1 0 0 [] [.int t3, .ref (wad Γ 108)] 18) (fun t3 hf => ?_) (fun j7 hj7 hf => ?_)
  · refine x_iconst C (v := (1 : Int32)) (by decide) (dkAt dk_X12_noChain 10 rfl) 19 rfl ?_
    obtain ⟨v4, M5, h6, hf⟩ := cl_inv hf
    refine x_cVi C (c_X12_refuse hN h6) mw_X12_refuse ln_RX12_68 mi_X12_refuse (hN.rc (ci := 12) sh108 rc12) (ro_of (by decide) (by decide) (by decide) (by decide)) rfl rfl (Nat.le_of_ble_eq_true rfl) (dkAt dk_X12_noChain 11 rfl) 22 rfl 0 0 rfl rfl ?_
    obtain ⟨hz, hf⟩ := if_some hf
    exact x_zret C E hz hf (by decide) (by decide) (dkAt dk_X12_noChain 12 rfl)
  · refine x_if_ne C 17 (dkAt dk_X12_noChain 6 rfl) 13 rfl (by decide) hf (fun hf => ?_) (fun hf => ?_)
    · refine x_iconst C (v := (0 : Int32)) (by decide) (dkAt dk_X12_noChain 9 rfl) 18 rfl ?_
      exact G.weak (L := []) trivial (hj7 _ hf)
    · refine x_iconst C (v := (1 : Int32)) (by decide) (dkAt dk_X12_noChain 7 rfl) 14 rfl ?_
      refine x_goto C 18 (dkAt dk_X12_noChain 8 rfl) (by decide) ?_
      exact G.weak (L := []) trivial (hj7 _ hf)
def f_X12_append_L23 (Z : Nat) (p0 : Int32) (p1 : Int32) (p2 : Int32) (p3 : Int32) (p4 : Int32) (k : Mem → Option (Int32 × Mem)) : Nat → Int32 → Mem → Option (Int32 × Mem)
  | 0, _, _ => none
  | n + 1, x3, M4 => (if (20 : Int32) ≤ x3 then k M4 else jn (fun (t5 : Int32) => bd (gI M4 (108) 9) (fun v6 => nzI (4 : Int32) (wrI M4 114 1200 (v6 + x3) ((t5 >>> (((24 : Int32) - ((8 : Int32) * (x3 - x3 / (4 : Int32) * (4 : Int32)))) &&& 31)) &&& (255 : Int32)) (fun M7 => f_X12_append_L23 Z p0 p1 p2 p3 p4 k n (x3 + (1 : Int32)) M7)))) (fun j8 => (if (4 : Int32) ≤ x3 then (if (8 : Int32) ≤ x3 then (if (12 : Int32) ≤ x3 then (if (16 : Int32) ≤ x3 then j8 p4 else j8 p3) else j8 p2) else j8 p1) else j8 p0)))
def f_X12_append (Z : Nat) (M : Mem) (p0 : Int32) (p1 : Int32) (p2 : Int32) (p3 : Int32) (p4 : Int32) : Option (Int32 × Mem) :=
  bd (sI M (108) 0 (0 : Int32)) (fun M1 => bd (gI M1 (108) 9) (fun v2 => (if (v2 + (20 : Int32)) ≤ (1200 : Int32) then f_X12_append_L23 Z p0 p1 p2 p3 p4 (fun (M9 : Mem) => bd (gI M9 (108) 9) (fun v10 => bd (sI M9 (108) 9 (v10 + (20 : Int32))) (fun M11 => bd (gI M11 (108) 9) (fun v12 => some (v12, M11))))) Z (0 : Int32) M1 else some ((-1 : Int32), M1))))
set_option maxRecDepth 100000 in
theorem l_X12_append_L23 {Γ : WC} {X : MX} (hN : HN Γ) (C : CX Γ X cX12_append 8 RX12 (some .int) (rmL 0 0 0)) {rM : Int32 × Mem} (E : EndN Γ X (some (.int rM.1)) rM.2 0 0) {Z : Nat} {p0 : Int32} {p1 : Int32} {p2 : Int32} {p3 : Int32} {p4 : Int32} {k : Mem → Option (Int32 × Mem)} (hk : ∀  (Mx : Mem), k Mx = some rM → G Γ X Mx 0 0 [some (.ref (wad Γ 108))] [] 113) : ∀ (n : Nat) (x3 : Int32) (M4 : Mem), f_X12_append_L23 Z p0 p1 p2 p3 p4 k n x3 M4 = some rM → G Γ X M4 0 0 [some (.ref (wad Γ 108)), some (.int p0), some (.int p1), some (.int p2), some (.int p3), some (.int p4), some (.int x3)] [] 23 := by
  intro n
  induction n with
  | zero =>
    intro x3 M4 hf
    have hf0 : (none : Option _) = some rM := hf
    cases hf0
  | succ n ih =>
    intro x3 M4 hf
    rw [f_X12_append_L23] at hf
    refine x_iload C rfl (dkAt dk_X12_append 13 rfl) 25 rfl ?_
    refine x_bipush C (v := (20 : Int32)) (by decide) (dkAt dk_X12_append 14 rfl) 27 rfl ?_
    refine x_icmp_ge C 113 (dkAt dk_X12_append 15 rfl) 30 rfl (by decide) hf (fun hf => ?_) (fun hf => ?_)
    · exact G.weak (L := [some (.ref (wad Γ 108))]) ⟨rfl, trivial⟩ (hk _ hf)
    · refine x_iload C rfl (dkAt dk_X12_append 16 rfl) 32 rfl ?_
      refine x_iconst C (v := (4 : Int32)) (by decide) (dkAt dk_X12_append 17 rfl) 33 rfl ?_
      refine x_join hf (fun t5 => G Γ X M4 0 0 [some (.ref (wad Γ 108)), some (.int p0), some (.int p1), some (.int p2), some (.int p3), some (.int p4), some (.int x3)] [.int t5] 76) (fun t5 hf => ?_) (fun j8 hj8 hf => ?_)
      · refine x_istore C (L1 := [some (.ref (wad Γ 108)), some (.int p0), some (.int p1), some (.int p2), some (.int p3), some (.int p4), some (.int x3), some (.int t5)]) (dkAt dk_X12_append 37 rfl) 78 rfl (by decide) rfl ?_
        refine x_aload_n C rfl rfl (dkAt dk_X12_append 38 rfl) 79 rfl ?_
        refine x_getS C lk_RX12_26 (hN.sh sh108) (hN.sr sr108_8) (dkAt dk_X12_append 39 rfl) 82 rfl ?_
        refine x_aload_n C rfl rfl (dkAt dk_X12_append 40 rfl) 83 rfl ?_
        refine x_getI C lk_RX12_72 (hN.sh sh108) (dkAt dk_X12_append 41 rfl) 86 rfl hf (fun v6 hf => ?_)
        refine x_iload C rfl (dkAt dk_X12_append 42 rfl) 88 rfl ?_
        refine x_iadd C (dkAt dk_X12_append 43 rfl) 89 rfl ?_
        refine x_iload C rfl (dkAt dk_X12_append 44 rfl) 91 rfl ?_
        refine x_bipush C (v := (24 : Int32)) (by decide) (dkAt dk_X12_append 45 rfl) 93 rfl ?_
        refine x_bipush C (v := (8 : Int32)) (by decide) (dkAt dk_X12_append 46 rfl) 95 rfl ?_
        refine x_iload C rfl (dkAt dk_X12_append 47 rfl) 97 rfl ?_
        refine x_iconst C (v := (4 : Int32)) (by decide) (dkAt dk_X12_append 48 rfl) 98 rfl ?_
        refine x_irem C (dkAt dk_X12_append 49 rfl) 99 rfl hf (fun hf => ?_)
        refine x_imul C (dkAt dk_X12_append 50 rfl) 100 rfl ?_
        refine x_isub C (dkAt dk_X12_append 51 rfl) 101 rfl ?_
        refine x_ishr C (dkAt dk_X12_append 52 rfl) 102 rfl ?_
        refine x_sipush C (v := (255 : Int32)) (by decide) (dkAt dk_X12_append 53 rfl) 105 rfl ?_
        refine x_iand C (dkAt dk_X12_append 54 rfl) 106 rfl ?_
        refine x_iast C (hN.sh sh114) (dkAt dk_X12_append 55 rfl) 107 rfl hf (fun M7 hf => ?_)
        refine x_iinc C (v := (x3 + (1 : Int32))) (L1 := [some (.ref (wad Γ 108)), some (.int p0), some (.int p1), some (.int p2), some (.int p3), some (.int p4), some (.int (x3 + (1 : Int32))), some (.int t5)]) (dkAt dk_X12_append 56 rfl) 110 rfl rfl rfl (by decide) rfl ?_
        refine x_goto C 23 (dkAt dk_X12_append 57 rfl) (by decide) ?_
        exact G.weak (L := [some (.ref (wad Γ 108)), some (.int p0), some (.int p1), some (.int p2), some (.int p3), some (.int p4), some (.int (x3 + (1 : Int32)))]) ⟨rfl, rfl, rfl, rfl, rfl, rfl, rfl, trivial⟩ (ih _ _ hf)
      · refine x_icmp_ge C 40 (dkAt dk_X12_append 18 rfl) 36 rfl (by decide) hf (fun hf => ?_) (fun hf => ?_)
        · refine x_iload C rfl (dkAt dk_X12_append 21 rfl) 42 rfl ?_
          refine x_bipush C (v := (8 : Int32)) (by decide) (dkAt dk_X12_append 22 rfl) 44 rfl ?_
          refine x_icmp_ge C 51 (dkAt dk_X12_append 23 rfl) 47 rfl (by decide) hf (fun hf => ?_) (fun hf => ?_)
          · refine x_iload C rfl (dkAt dk_X12_append 26 rfl) 53 rfl ?_
            refine x_bipush C (v := (12 : Int32)) (by decide) (dkAt dk_X12_append 27 rfl) 55 rfl ?_
            refine x_icmp_ge C 62 (dkAt dk_X12_append 28 rfl) 58 rfl (by decide) hf (fun hf => ?_) (fun hf => ?_)
            · refine x_iload C rfl (dkAt dk_X12_append 31 rfl) 64 rfl ?_
              refine x_bipush C (v := (16 : Int32)) (by decide) (dkAt dk_X12_append 32 rfl) 66 rfl ?_
              refine x_icmp_ge C 74 (dkAt dk_X12_append 33 rfl) 69 rfl (by decide) hf (fun hf => ?_) (fun hf => ?_)
              · refine x_iload C rfl (dkAt dk_X12_append 36 rfl) 76 rfl ?_
                exact G.weak (L := [some (.ref (wad Γ 108)), some (.int p0), some (.int p1), some (.int p2), some (.int p3), some (.int p4), some (.int x3)]) ⟨rfl, rfl, rfl, rfl, rfl, rfl, rfl, trivial⟩ (hj8 _ hf)
              · refine x_iload C rfl (dkAt dk_X12_append 34 rfl) 71 rfl ?_
                refine x_goto C 76 (dkAt dk_X12_append 35 rfl) (by decide) ?_
                exact G.weak (L := [some (.ref (wad Γ 108)), some (.int p0), some (.int p1), some (.int p2), some (.int p3), some (.int p4), some (.int x3)]) ⟨rfl, rfl, rfl, rfl, rfl, rfl, rfl, trivial⟩ (hj8 _ hf)
            · refine x_iload_n C rfl rfl (dkAt dk_X12_append 29 rfl) 59 rfl ?_
              refine x_goto C 76 (dkAt dk_X12_append 30 rfl) (by decide) ?_
              exact G.weak (L := [some (.ref (wad Γ 108)), some (.int p0), some (.int p1), some (.int p2), some (.int p3), some (.int p4), some (.int x3)]) ⟨rfl, rfl, rfl, rfl, rfl, rfl, rfl, trivial⟩ (hj8 _ hf)
          · refine x_iload_n C rfl rfl (dkAt dk_X12_append 24 rfl) 48 rfl ?_
            refine x_goto C 76 (dkAt dk_X12_append 25 rfl) (by decide) ?_
            exact G.weak (L := [some (.ref (wad Γ 108)), some (.int p0), some (.int p1), some (.int p2), some (.int p3), some (.int p4), some (.int x3)]) ⟨rfl, rfl, rfl, rfl, rfl, rfl, rfl, trivial⟩ (hj8 _ hf)
        · refine x_iload_n C rfl rfl (dkAt dk_X12_append 19 rfl) 37 rfl ?_
          refine x_goto C 76 (dkAt dk_X12_append 20 rfl) (by decide) ?_
          exact G.weak (L := [some (.ref (wad Γ 108)), some (.int p0), some (.int p1), some (.int p2), some (.int p3), some (.int p4), some (.int x3)]) ⟨rfl, rfl, rfl, rfl, rfl, rfl, rfl, trivial⟩ (hj8 _ hf)
set_option maxRecDepth 100000 in
theorem c_X12_append {Γ : WC} (hN : HN Γ) {Z : Nat} {M : Mem} {p0 : Int32} {p1 : Int32} {p2 : Int32} {p3 : Int32} {p4 : Int32} {rM : Int32 × Mem}  (hf : f_X12_append Z M p0 p1 p2 p3 p4 = some rM) : Ct Γ yX12_append cX12_append 8 (some .int) (rmL 0 0 0) [.ref (wad Γ 108), .int p0, .int p1, .int p2, .int p3, .int p4] M (some (.int rM.1)) rM.2 := by
  refine mkN hN.1 (own := RX12) rfl (by decide) (Nat.le_of_ble_eq_true rfl) (fun X C E => ?_)
  change G Γ X M 0 0 [some (.ref (wad Γ 108)), some (.int p0), some (.int p1), some (.int p2), some (.int p3), some (.int p4)] [] 0
  unfold f_X12_append at hf
  refine x_aload_n C rfl rfl (dkAt dk_X12_append 0 rfl) 1 rfl ?_
  refine x_iconst C (v := (0 : Int32)) (by decide) (dkAt dk_X12_append 1 rfl) 2 rfl ?_
  refine x_putI C pk_RX12_61 ⟨_, rfl⟩ (hN.sh sh108) (dkAt dk_X12_append 2 rfl) 5 rfl hf (fun M1 hf => ?_)
  refine x_aload_n C rfl rfl (dkAt dk_X12_append 3 rfl) 6 rfl ?_
  refine x_getI C lk_RX12_72 (hN.sh sh108) (dkAt dk_X12_append 4 rfl) 9 rfl hf (fun v2 hf => ?_)
  refine x_bipush C (v := (20 : Int32)) (by decide) (dkAt dk_X12_append 5 rfl) 11 rfl ?_
  refine x_iadd C (dkAt dk_X12_append 6 rfl) 12 rfl ?_
  refine x_sipush C (v := (1200 : Int32)) (by decide) (dkAt dk_X12_append 7 rfl) 15 rfl ?_
  refine x_icmp_le C 20 (dkAt dk_X12_append 8 rfl) 18 rfl (by decide) hf (fun hf => ?_) (fun hf => ?_)
  · refine x_iconst C (v := (0 : Int32)) (by decide) (dkAt dk_X12_append 11 rfl) 21 rfl ?_
    refine x_istore C (L1 := [some (.ref (wad Γ 108)), some (.int p0), some (.int p1), some (.int p2), some (.int p3), some (.int p4), some (.int (0 : Int32))]) (dkAt dk_X12_append 12 rfl) 23 rfl (by decide) rfl ?_
    refine G.weak (L := [some (.ref (wad Γ 108)), some (.int p0), some (.int p1), some (.int p2), some (.int p3), some (.int p4), some (.int (0 : Int32))]) ⟨rfl, rfl, rfl, rfl, rfl, rfl, rfl, trivial⟩ ?_
    refine l_X12_append_L23 hN C E ?_ Z _ _ hf
    intro M9 hf
    refine x_aload_n C rfl rfl (dkAt dk_X12_append 58 rfl) 114 rfl ?_
    refine x_dup C rfl (dkAt dk_X12_append 59 rfl) 115 rfl ?_
    refine x_getI C lk_RX12_72 (hN.sh sh108) (dkAt dk_X12_append 60 rfl) 118 rfl hf (fun v10 hf => ?_)
    refine x_bipush C (v := (20 : Int32)) (by decide) (dkAt dk_X12_append 61 rfl) 120 rfl ?_
    refine x_iadd C (dkAt dk_X12_append 62 rfl) 121 rfl ?_
    refine x_putI C pk_RX12_72 ⟨_, rfl⟩ (hN.sh sh108) (dkAt dk_X12_append 63 rfl) 124 rfl hf (fun M11 hf => ?_)
    refine x_aload_n C rfl rfl (dkAt dk_X12_append 64 rfl) 125 rfl ?_
    refine x_getI C lk_RX12_72 (hN.sh sh108) (dkAt dk_X12_append 65 rfl) 128 rfl hf (fun v12 hf => ?_)
    exact x_iret C E hf (by decide) (by decide) (dkAt dk_X12_append 66 rfl)
  · refine x_iconst C (v := (-1 : Int32)) (by decide) (dkAt dk_X12_append 9 rfl) 19 rfl ?_
    exact x_iret C E hf (by decide) (by decide) (dkAt dk_X12_append 10 rfl)
def f_X12_buffered (Z : Nat) (M : Mem)  : Option (Int32 × Mem) :=
  bd (sI M (108) 0 (0 : Int32)) (fun M1 => bd (gI M1 (108) 9) (fun v2 => some (v2, M1)))
set_option maxRecDepth 100000 in
theorem c_X12_buffered {Γ : WC} (hN : HN Γ) {Z : Nat} {M : Mem}  {rM : Int32 × Mem}  (hf : f_X12_buffered Z M  = some rM) : Ct Γ yX12_buffered cX12_buffered 1 (some .int) (rmL 0 0 0) [.ref (wad Γ 108)] M (some (.int rM.1)) rM.2 := by
  refine mkN hN.1 (own := RX12) rfl (by decide) (Nat.le_of_ble_eq_true rfl) (fun X C E => ?_)
  change G Γ X M 0 0 [some (.ref (wad Γ 108))] [] 0
  unfold f_X12_buffered at hf
  refine x_aload_n C rfl rfl (dkAt dk_X12_buffered 0 rfl) 1 rfl ?_
  refine x_iconst C (v := (0 : Int32)) (by decide) (dkAt dk_X12_buffered 1 rfl) 2 rfl ?_
  refine x_putI C pk_RX12_61 ⟨_, rfl⟩ (hN.sh sh108) (dkAt dk_X12_buffered 2 rfl) 5 rfl hf (fun M1 hf => ?_)
  refine x_aload_n C rfl rfl (dkAt dk_X12_buffered 3 rfl) 6 rfl ?_
  refine x_getI C lk_RX12_72 (hN.sh sh108) (dkAt dk_X12_buffered 4 rfl) 9 rfl hf (fun v2 hf => ?_)
  exact x_iret C E hf (by decide) (by decide) (dkAt dk_X12_buffered 5 rfl)
def f_X12_parseError (Z : Nat) (M : Mem)  : Option (Int32 × Mem) :=
  bd (sI M (108) 0 (0 : Int32)) (fun M1 => bd (gI M1 (108) 10) (fun v2 => some (v2, M1)))
set_option maxRecDepth 100000 in
theorem c_X12_parseError {Γ : WC} (hN : HN Γ) {Z : Nat} {M : Mem}  {rM : Int32 × Mem}  (hf : f_X12_parseError Z M  = some rM) : Ct Γ yX12_parseError cX12_parseError 1 (some .int) (rmL 0 0 0) [.ref (wad Γ 108)] M (some (.int rM.1)) rM.2 := by
  refine mkN hN.1 (own := RX12) rfl (by decide) (Nat.le_of_ble_eq_true rfl) (fun X C E => ?_)
  change G Γ X M 0 0 [some (.ref (wad Γ 108))] [] 0
  unfold f_X12_parseError at hf
  refine x_aload_n C rfl rfl (dkAt dk_X12_parseError 0 rfl) 1 rfl ?_
  refine x_iconst C (v := (0 : Int32)) (by decide) (dkAt dk_X12_parseError 1 rfl) 2 rfl ?_
  refine x_putI C pk_RX12_61 ⟨_, rfl⟩ (hN.sh sh108) (dkAt dk_X12_parseError 2 rfl) 5 rfl hf (fun M1 hf => ?_)
  refine x_aload_n C rfl rfl (dkAt dk_X12_parseError 3 rfl) 6 rfl ?_
  refine x_getI C lk_RX12_75 (hN.sh sh108) (dkAt dk_X12_parseError 4 rfl) 9 rfl hf (fun v2 hf => ?_)
  exact x_iret C E hf (by decide) (by decide) (dkAt dk_X12_parseError 5 rfl)
def f_X12_errorPosition (Z : Nat) (M : Mem)  : Option (Int32 × Mem) :=
  bd (sI M (108) 0 (0 : Int32)) (fun M1 => bd (gI M1 (108) 11) (fun v2 => some (v2, M1)))
set_option maxRecDepth 100000 in
theorem c_X12_errorPosition {Γ : WC} (hN : HN Γ) {Z : Nat} {M : Mem}  {rM : Int32 × Mem}  (hf : f_X12_errorPosition Z M  = some rM) : Ct Γ yX12_errorPosition cX12_errorPosition 1 (some .int) (rmL 0 0 0) [.ref (wad Γ 108)] M (some (.int rM.1)) rM.2 := by
  refine mkN hN.1 (own := RX12) rfl (by decide) (Nat.le_of_ble_eq_true rfl) (fun X C E => ?_)
  change G Γ X M 0 0 [some (.ref (wad Γ 108))] [] 0
  unfold f_X12_errorPosition at hf
  refine x_aload_n C rfl rfl (dkAt dk_X12_errorPosition 0 rfl) 1 rfl ?_
  refine x_iconst C (v := (0 : Int32)) (by decide) (dkAt dk_X12_errorPosition 1 rfl) 2 rfl ?_
  refine x_putI C pk_RX12_61 ⟨_, rfl⟩ (hN.sh sh108) (dkAt dk_X12_errorPosition 2 rfl) 5 rfl hf (fun M1 hf => ?_)
  refine x_aload_n C rfl rfl (dkAt dk_X12_errorPosition 3 rfl) 6 rfl ?_
  refine x_getI C lk_RX12_29 (hN.sh sh108) (dkAt dk_X12_errorPosition 4 rfl) 9 rfl hf (fun v2 hf => ?_)
  exact x_iret C E hf (by decide) (by decide) (dkAt dk_X12_errorPosition 5 rfl)
def f_X12_seen (Z : Nat) (M : Mem) (p0 : Int32) : Option (Int32 × Mem) :=
  bd (gI M (108) 12) (fun v1 => (if v1 ≤ p0 then some ((-1 : Int32), M) else rdI M 114 1200 p0 (fun v2 => some (v2, M))))
set_option maxRecDepth 100000 in
theorem c_X12_seen {Γ : WC} (hN : HN Γ) {Z : Nat} {M : Mem} {p0 : Int32} {rM : Int32 × Mem}  (hf : f_X12_seen Z M p0 = some rM) : Ct Γ yX12_seen cX12_seen 2 (some .int) (rmL 0 0 0) [.ref (wad Γ 108), .int p0] M (some (.int rM.1)) rM.2 := by
  refine mkN hN.1 (own := RX12) rfl (by decide) (Nat.le_of_ble_eq_true rfl) (fun X C E => ?_)
  change G Γ X M 0 0 [some (.ref (wad Γ 108)), some (.int p0)] [] 0
  unfold f_X12_seen at hf
  refine x_iload_n C rfl rfl (dkAt dk_X12_seen 0 rfl) 1 rfl ?_
  refine x_aload_n C rfl rfl (dkAt dk_X12_seen 1 rfl) 2 rfl ?_
  refine x_getI C lk_RX12_78 (hN.sh sh108) (dkAt dk_X12_seen 2 rfl) 5 rfl hf (fun v1 hf => ?_)
  refine x_icmp_ge C 17 (dkAt dk_X12_seen 3 rfl) 8 rfl (by decide) hf (fun hf => ?_) (fun hf => ?_)
  · refine x_iconst C (v := (-1 : Int32)) (by decide) (dkAt dk_X12_seen 9 rfl) 18 rfl ?_
    exact x_iret C E hf (by decide) (by decide) (dkAt dk_X12_seen 10 rfl)
  · refine x_aload_n C rfl rfl (dkAt dk_X12_seen 4 rfl) 9 rfl ?_
    refine x_getS C lk_RX12_26 (hN.sh sh108) (hN.sr sr108_8) (dkAt dk_X12_seen 5 rfl) 12 rfl ?_
    refine x_iload_n C rfl rfl (dkAt dk_X12_seen 6 rfl) 13 rfl ?_
    refine x_iald C (hN.sh sh114) (dkAt dk_X12_seen 7 rfl) 14 rfl hf (fun v2 hf => ?_)
    refine x_goto C 18 (dkAt dk_X12_seen 8 rfl) (by decide) ?_
    exact x_iret C E hf (by decide) (by decide) (dkAt dk_X12_seen 10 rfl)
def f_X12_isLetter (Z : Nat) (M : Mem) (p0 : Int32) : Option (Int32 × Mem) :=
  (if p0 < (97 : Int32) then some ((0 : Int32), M) else (if (122 : Int32) < p0 then some ((0 : Int32), M) else some ((1 : Int32), M)))
set_option maxRecDepth 100000 in
theorem c_X12_isLetter {Γ : WC} (hN : HN Γ) {Z : Nat} {M : Mem} {p0 : Int32} {rM : Int32 × Mem}  (hf : f_X12_isLetter Z M p0 = some rM) : Ct Γ yX12_isLetter cX12_isLetter 1 (some .boolean) (rmL 0 0 0) [.int p0] M (some (.int rM.1)) rM.2 := by
  refine mkN hN.1 (own := RX12) rfl (by decide) (Nat.le_of_ble_eq_true rfl) (fun X C E => ?_)
  change G Γ X M 0 0 [some (.int p0)] [] 0
  unfold f_X12_isLetter at hf
  refine x_iload_n C rfl rfl (dkAt dk_X12_isLetter 0 rfl) 1 rfl ?_
  refine x_bipush C (v := (97 : Int32)) (by decide) (dkAt dk_X12_isLetter 1 rfl) 3 rfl ?_
  refine x_icmp_lt C 16 (dkAt dk_X12_isLetter 2 rfl) 6 rfl (by decide) hf (fun hf => ?_) (fun hf => ?_)
  · refine x_iconst C (v := (0 : Int32)) (by decide) (dkAt dk_X12_isLetter 8 rfl) 17 rfl ?_
    exact x_zret C E (by decide) hf (by decide) (by decide) (dkAt dk_X12_isLetter 9 rfl)
  · refine x_iload_n C rfl rfl (dkAt dk_X12_isLetter 3 rfl) 7 rfl ?_
    refine x_bipush C (v := (122 : Int32)) (by decide) (dkAt dk_X12_isLetter 4 rfl) 9 rfl ?_
    refine x_icmp_gt C 16 (dkAt dk_X12_isLetter 5 rfl) 12 rfl (by decide) hf (fun hf => ?_) (fun hf => ?_)
    · refine x_iconst C (v := (0 : Int32)) (by decide) (dkAt dk_X12_isLetter 8 rfl) 17 rfl ?_
      exact x_zret C E (by decide) hf (by decide) (by decide) (dkAt dk_X12_isLetter 9 rfl)
    · refine x_iconst C (v := (1 : Int32)) (by decide) (dkAt dk_X12_isLetter 6 rfl) 13 rfl ?_
      refine x_goto C 17 (dkAt dk_X12_isLetter 7 rfl) (by decide) ?_
      exact x_zret C E (by decide) hf (by decide) (by decide) (dkAt dk_X12_isLetter 9 rfl)
def f_X12_isDigit (Z : Nat) (M : Mem) (p0 : Int32) : Option (Int32 × Mem) :=
  (if p0 < (48 : Int32) then some ((0 : Int32), M) else (if (57 : Int32) < p0 then some ((0 : Int32), M) else some ((1 : Int32), M)))
set_option maxRecDepth 100000 in
theorem c_X12_isDigit {Γ : WC} (hN : HN Γ) {Z : Nat} {M : Mem} {p0 : Int32} {rM : Int32 × Mem}  (hf : f_X12_isDigit Z M p0 = some rM) : Ct Γ yX12_isDigit cX12_isDigit 1 (some .boolean) (rmL 0 0 0) [.int p0] M (some (.int rM.1)) rM.2 := by
  refine mkN hN.1 (own := RX12) rfl (by decide) (Nat.le_of_ble_eq_true rfl) (fun X C E => ?_)
  change G Γ X M 0 0 [some (.int p0)] [] 0
  unfold f_X12_isDigit at hf
  refine x_iload_n C rfl rfl (dkAt dk_X12_isDigit 0 rfl) 1 rfl ?_
  refine x_bipush C (v := (48 : Int32)) (by decide) (dkAt dk_X12_isDigit 1 rfl) 3 rfl ?_
  refine x_icmp_lt C 16 (dkAt dk_X12_isDigit 2 rfl) 6 rfl (by decide) hf (fun hf => ?_) (fun hf => ?_)
  · refine x_iconst C (v := (0 : Int32)) (by decide) (dkAt dk_X12_isDigit 8 rfl) 17 rfl ?_
    exact x_zret C E (by decide) hf (by decide) (by decide) (dkAt dk_X12_isDigit 9 rfl)
  · refine x_iload_n C rfl rfl (dkAt dk_X12_isDigit 3 rfl) 7 rfl ?_
    refine x_bipush C (v := (57 : Int32)) (by decide) (dkAt dk_X12_isDigit 4 rfl) 9 rfl ?_
    refine x_icmp_gt C 16 (dkAt dk_X12_isDigit 5 rfl) 12 rfl (by decide) hf (fun hf => ?_) (fun hf => ?_)
    · refine x_iconst C (v := (0 : Int32)) (by decide) (dkAt dk_X12_isDigit 8 rfl) 17 rfl ?_
      exact x_zret C E (by decide) hf (by decide) (by decide) (dkAt dk_X12_isDigit 9 rfl)
    · refine x_iconst C (v := (1 : Int32)) (by decide) (dkAt dk_X12_isDigit 6 rfl) 13 rfl ?_
      refine x_goto C 17 (dkAt dk_X12_isDigit 7 rfl) (by decide) ?_
      exact x_zret C E (by decide) hf (by decide) (by decide) (dkAt dk_X12_isDigit 9 rfl)
def f_X12_token_L0 (Z : Nat) (k : Mem → Option (Unit × Mem)) : Nat → Mem → Option (Unit × Mem)
  | 0, _ => none
  | n + 1, M1 => bd (gI M1 (108) 13) (fun v2 => cl (f_X12_seen Z M1 v2) (fun v3 M4 => (if v3 = (32 : Int32) then bd (gI M4 (108) 13) (fun v5 => bd (sI M4 (108) 13 (v5 + (1 : Int32))) (fun M6 => f_X12_token_L0 Z k n M6)) else k M4)))
def f_X12_token_L166 (Z : Nat) (k : Int32 → Mem → Option (Unit × Mem)) : Nat → Int32 → Mem → Option (Unit × Mem)
  | 0, _, _ => none
  | n + 1, x24, M25 => bd (gI M25 (108) 13) (fun v26 => cl (f_X12_seen Z M25 v26) (fun v27 M28 => cl (f_X12_isDigit Z M28 v27) (fun v29 M30 => (if v29 = 0 then k x24 M30 else jn (fun (t31 : Int32 × Mem) => bd (sI t31.2 (108) 18 t31.1) (fun M32 => bd (gI M32 (108) 13) (fun v33 => bd (sI M32 (108) 13 (v33 + (1 : Int32))) (fun M34 => f_X12_token_L166 Z k n (x24 + (1 : Int32)) M34)))) (fun j35 => (if (5 : Int32) ≤ x24 then j35 ((0 : Int32), M30) else bd (gI M30 (108) 18) (fun v36 => bd (gI M30 (108) 13) (fun v37 => cl (f_X12_seen Z M30 v37) (fun v38 M39 => j35 (((((10 : Int32) * v36) + v38) - (48 : Int32)), M39))))))))))
def f_X12_token_L68 (Z : Nat) (k : Mem → Option (Unit × Mem)) : Nat → Mem → Option (Unit × Mem)
  | 0, _ => none
  | n + 1, M49 => bd (gI M49 (108) 13) (fun v50 => cl (f_X12_seen Z M49 v50) (fun v51 M52 => cl (f_X12_isLetter Z M52 v51) (fun v53 M54 => (if v53 = 0 then k M54 else bd (gI M54 (108) 17) (fun v55 => jn (fun (t56 : Mem) => bd (gI t56 (108) 17) (fun v57 => bd (sI t56 (108) 17 (v57 + (1 : Int32))) (fun M58 => bd (gI M58 (108) 13) (fun v59 => bd (sI M58 (108) 13 (v59 + (1 : Int32))) (fun M60 => f_X12_token_L68 Z k n M60))))) (fun j61 => (if (8 : Int32) ≤ v55 then j61 M54 else bd (gI M54 (108) 17) (fun v62 => bd (gI M54 (108) 13) (fun v63 => cl (f_X12_seen Z M54 v63) (fun v64 M65 => wrI M65 115 8 v62 v64 (fun M66 => j61 M66)))))))))))
def f_X12_token (Z : Nat) (M : Mem)  : Option (Unit × Mem) :=
  f_X12_token_L0 Z (fun (M8 : Mem) => bd (gI M8 (108) 13) (fun v9 => bd (sI M8 (108) 14 v9) (fun M10 => bd (gI M10 (108) 13) (fun v11 => cl (f_X12_seen Z M10 v11) (fun v12 M13 => (if v12 = (-1 : Int32) then bd (sI M13 (108) 15 (0 : Int32)) (fun M75 => some ((), M75)) else cl (f_X12_isLetter Z M13 v12) (fun v14 M15 => (if v14 = 0 then cl (f_X12_isDigit Z M15 v12) (fun v16 M17 => (if v16 = 0 then jn (fun (t18 : Int32) => bd (sI M17 (108) 15 t18) (fun M19 => bd (gI M19 (108) 13) (fun v20 => bd (sI M19 (108) 13 (v20 + (1 : Int32))) (fun M21 => some ((), M21))))) (fun j22 => (if v12 = (59 : Int32) then j22 (3 : Int32) else (if v12 = (45 : Int32) then j22 (4 : Int32) else j22 (5 : Int32)))) else bd (sI M17 (108) 18 (0 : Int32)) (fun M23 => f_X12_token_L166 Z (fun (y43 : Int32) (M44 : Mem) => (if y43 ≤ (5 : Int32) then bd (sI M44 (108) 15 (2 : Int32)) (fun M45 => some ((), M45)) else bd (sI M44 (108) 15 (5 : Int32)) (fun M46 => some ((), M46)))) Z (0 : Int32) M23))) else bd (sI M15 (108) 17 (0 : Int32)) (fun M48 => f_X12_token_L68 Z (fun (M70 : Mem) => bd (gI M70 (108) 17) (fun v71 => (if v71 ≤ (8 : Int32) then bd (sI M70 (108) 15 (1 : Int32)) (fun M72 => some ((), M72)) else bd (sI M70 (108) 15 (5 : Int32)) (fun M73 => some ((), M73))))) Z M48))))))))) Z M
set_option maxRecDepth 100000 in
theorem l_X12_token_L0 {Γ : WC} {X : MX} (hN : HN Γ) (C : CX Γ X cX12_token 3 RX12 none (rmL 1 0 0)) {rM : Unit × Mem} (E : EndN Γ X none rM.2 0 0) {Z : Nat} {k : Mem → Option (Unit × Mem)} (hk : ∀  (Mx : Mem), k Mx = some rM → G Γ X Mx 0 0 [some (.ref (wad Γ 108))] [] 26) : ∀ (n : Nat) (M1 : Mem), f_X12_token_L0 Z k n M1 = some rM → G Γ X M1 0 0 [some (.ref (wad Γ 108))] [] 0 := by
  intro n
  induction n with
  | zero =>
    intro M1 hf
    have hf0 : (none : Option _) = some rM := hf
    cases hf0
  | succ n ih =>
    intro M1 hf
    rw [f_X12_token_L0] at hf
    refine x_aload_n C rfl rfl (dkAt dk_X12_token 0 rfl) 1 rfl ?_
    refine x_aload_n C rfl rfl (dkAt dk_X12_token 1 rfl) 2 rfl ?_
    refine x_getI C lk_RX12_81 (hN.sh sh108) (dkAt dk_X12_token 2 rfl) 5 rfl hf (fun v2 hf => ?_)
    obtain ⟨v3, M4, h7, hf⟩ := cl_inv hf
    refine x_cVi C (c_X12_seen hN h7) mw_X12_seen ln_RX12_84 mi_X12_seen (hN.rc (ci := 12) sh108 rc12) (ro_of (by decide) (by decide) (by decide) (by decide)) rfl rfl (Nat.le_of_ble_eq_true rfl) (dkAt dk_X12_token 3 rfl) 8 rfl 0 0 rfl rfl ?_
    refine x_bipush C (v := (32 : Int32)) (by decide) (dkAt dk_X12_token 4 rfl) 10 rfl ?_
    refine x_icmp_ne C 26 (dkAt dk_X12_token 5 rfl) 13 rfl (by decide) hf (fun hf => ?_) (fun hf => ?_)
    · exact G.weak (L := [some (.ref (wad Γ 108))]) ⟨rfl, trivial⟩ (hk _ hf)
    · refine x_aload_n C rfl rfl (dkAt dk_X12_token 6 rfl) 14 rfl ?_
      refine x_dup C rfl (dkAt dk_X12_token 7 rfl) 15 rfl ?_
      refine x_getI C lk_RX12_81 (hN.sh sh108) (dkAt dk_X12_token 8 rfl) 18 rfl hf (fun v5 hf => ?_)
      refine x_iconst C (v := (1 : Int32)) (by decide) (dkAt dk_X12_token 9 rfl) 19 rfl ?_
      refine x_iadd C (dkAt dk_X12_token 10 rfl) 20 rfl ?_
      refine x_putI C pk_RX12_81 ⟨_, rfl⟩ (hN.sh sh108) (dkAt dk_X12_token 11 rfl) 23 rfl hf (fun M6 hf => ?_)
      refine x_goto C 0 (dkAt dk_X12_token 12 rfl) (by decide) ?_
      exact G.weak (L := [some (.ref (wad Γ 108))]) ⟨rfl, trivial⟩ (ih _ hf)
set_option maxRecDepth 100000 in
theorem l_X12_token_L166 {Γ : WC} {X : MX} (hN : HN Γ) (C : CX Γ X cX12_token 3 RX12 none (rmL 1 0 0)) {rM : Unit × Mem} (E : EndN Γ X none rM.2 0 0) {Z : Nat} {k : Int32 → Mem → Option (Unit × Mem)} (hk : ∀ (a2 : Int32) (Mx : Mem), k a2 Mx = some rM → G Γ X Mx 0 0 [some (.ref (wad Γ 108)), none, some (.int a2)] [] 228) : ∀ (n : Nat) (x24 : Int32) (M25 : Mem), f_X12_token_L166 Z k n x24 M25 = some rM → G Γ X M25 0 0 [some (.ref (wad Γ 108)), none, some (.int x24)] [] 166 := by
  intro n
  induction n with
  | zero =>
    intro x24 M25 hf
    have hf0 : (none : Option _) = some rM := hf
    cases hf0
  | succ n ih =>
    intro x24 M25 hf
    rw [f_X12_token_L166] at hf
    refine x_aload_n C rfl rfl (dkAt dk_X12_token 85 rfl) 167 rfl ?_
    refine x_aload_n C rfl rfl (dkAt dk_X12_token 86 rfl) 168 rfl ?_
    refine x_getI C lk_RX12_81 (hN.sh sh108) (dkAt dk_X12_token 87 rfl) 171 rfl hf (fun v26 hf => ?_)
    obtain ⟨v27, M28, h42, hf⟩ := cl_inv hf
    refine x_cVi C (c_X12_seen hN h42) mw_X12_seen ln_RX12_84 mi_X12_seen (hN.rc (ci := 12) sh108 rc12) (ro_of (by decide) (by decide) (by decide) (by decide)) rfl rfl (Nat.le_of_ble_eq_true rfl) (dkAt dk_X12_token 88 rfl) 174 rfl 0 0 rfl rfl ?_
    obtain ⟨v29, M30, h41, hf⟩ := cl_inv hf
    refine x_cSi C (c_X12_isDigit hN h41) mw_X12_isDigit ln_RX12_101 ms_X12_isDigit (ro_of (by decide) (by decide) (by decide) (by decide)) rfl rfl (Nat.le_of_ble_eq_true rfl) (dkAt dk_X12_token 89 rfl) 177 rfl 0 0 rfl rfl ?_
    refine x_if_eq C 228 (dkAt dk_X12_token 90 rfl) 180 rfl (by decide) hf (fun hf => ?_) (fun hf => ?_)
    · exact G.weak (L := [some (.ref (wad Γ 108)), none, some (.int x24)]) ⟨rfl, rfl, trivial⟩ (hk _ _ hf)
    · refine x_aload_n C rfl rfl (dkAt dk_X12_token 91 rfl) 181 rfl ?_
      refine x_iload_n C rfl rfl (dkAt dk_X12_token 92 rfl) 182 rfl ?_
      refine x_iconst C (v := (5 : Int32)) (by decide) (dkAt dk_X12_token 93 rfl) 183 rfl ?_
      refine x_join hf (fun t31 => G Γ X t31.2 0 0 [some (.ref (wad Γ 108)), none, some (.int x24)] [.int t31.1, .ref (wad Γ 108)] 209) (fun t31 hf => ?_) (fun j35 hj35 hf => ?_)
      · refine x_putI C pk_RX12_104 ⟨_, rfl⟩ (hN.sh sh108) (dkAt dk_X12_token 108 rfl) 212 rfl hf (fun M32 hf => ?_)
        refine x_iinc C (v := (x24 + (1 : Int32))) (L1 := [some (.ref (wad Γ 108)), none, some (.int (x24 + (1 : Int32)))]) (dkAt dk_X12_token 109 rfl) 215 rfl rfl rfl (by decide) rfl ?_
        refine x_aload_n C rfl rfl (dkAt dk_X12_token 110 rfl) 216 rfl ?_
        refine x_dup C rfl (dkAt dk_X12_token 111 rfl) 217 rfl ?_
        refine x_getI C lk_RX12_81 (hN.sh sh108) (dkAt dk_X12_token 112 rfl) 220 rfl hf (fun v33 hf => ?_)
        refine x_iconst C (v := (1 : Int32)) (by decide) (dkAt dk_X12_token 113 rfl) 221 rfl ?_
        refine x_iadd C (dkAt dk_X12_token 114 rfl) 222 rfl ?_
        refine x_putI C pk_RX12_81 ⟨_, rfl⟩ (hN.sh sh108) (dkAt dk_X12_token 115 rfl) 225 rfl hf (fun M34 hf => ?_)
        refine x_goto C 166 (dkAt dk_X12_token 116 rfl) (by decide) ?_
        exact G.weak (L := [some (.ref (wad Γ 108)), none, some (.int (x24 + (1 : Int32)))]) ⟨rfl, rfl, trivial⟩ (ih _ _ hf)
      · refine x_icmp_ge C 208 (dkAt dk_X12_token 94 rfl) 186 rfl (by decide) hf (fun hf => ?_) (fun hf => ?_)
        · refine x_iconst C (v := (0 : Int32)) (by decide) (dkAt dk_X12_token 107 rfl) 209 rfl ?_
          exact G.weak (L := [some (.ref (wad Γ 108)), none, some (.int x24)]) ⟨rfl, rfl, trivial⟩ (hj35 _ hf)
        · refine x_bipush C (v := (10 : Int32)) (by decide) (dkAt dk_X12_token 95 rfl) 188 rfl ?_
          refine x_aload_n C rfl rfl (dkAt dk_X12_token 96 rfl) 189 rfl ?_
          refine x_getI C lk_RX12_104 (hN.sh sh108) (dkAt dk_X12_token 97 rfl) 192 rfl hf (fun v36 hf => ?_)
          refine x_imul C (dkAt dk_X12_token 98 rfl) 193 rfl ?_
          refine x_aload_n C rfl rfl (dkAt dk_X12_token 99 rfl) 194 rfl ?_
          refine x_aload_n C rfl rfl (dkAt dk_X12_token 100 rfl) 195 rfl ?_
          refine x_getI C lk_RX12_81 (hN.sh sh108) (dkAt dk_X12_token 101 rfl) 198 rfl hf (fun v37 hf => ?_)
          obtain ⟨v38, M39, h40, hf⟩ := cl_inv hf
          refine x_cVi C (c_X12_seen hN h40) mw_X12_seen ln_RX12_84 mi_X12_seen (hN.rc (ci := 12) sh108 rc12) (ro_of (by decide) (by decide) (by decide) (by decide)) rfl rfl (Nat.le_of_ble_eq_true rfl) (dkAt dk_X12_token 102 rfl) 201 rfl 0 0 rfl rfl ?_
          refine x_iadd C (dkAt dk_X12_token 103 rfl) 202 rfl ?_
          refine x_bipush C (v := (48 : Int32)) (by decide) (dkAt dk_X12_token 104 rfl) 204 rfl ?_
          refine x_isub C (dkAt dk_X12_token 105 rfl) 205 rfl ?_
          refine x_goto C 209 (dkAt dk_X12_token 106 rfl) (by decide) ?_
          exact G.weak (L := [some (.ref (wad Γ 108)), none, some (.int x24)]) ⟨rfl, rfl, trivial⟩ (hj35 _ hf)
set_option maxRecDepth 100000 in
theorem l_X12_token_L68 {Γ : WC} {X : MX} (hN : HN Γ) (C : CX Γ X cX12_token 3 RX12 none (rmL 1 0 0)) {rM : Unit × Mem} (E : EndN Γ X none rM.2 0 0) {Z : Nat} {k : Mem → Option (Unit × Mem)} (hk : ∀  (Mx : Mem), k Mx = some rM → G Γ X Mx 0 0 [some (.ref (wad Γ 108))] [] 131) : ∀ (n : Nat) (M49 : Mem), f_X12_token_L68 Z k n M49 = some rM → G Γ X M49 0 0 [some (.ref (wad Γ 108))] [] 68 := by
  intro n
  induction n with
  | zero =>
    intro M49 hf
    have hf0 : (none : Option _) = some rM := hf
    cases hf0
  | succ n ih =>
    intro M49 hf
    rw [f_X12_token_L68] at hf
    refine x_aload_n C rfl rfl (dkAt dk_X12_token 35 rfl) 69 rfl ?_
    refine x_aload_n C rfl rfl (dkAt dk_X12_token 36 rfl) 70 rfl ?_
    refine x_getI C lk_RX12_81 (hN.sh sh108) (dkAt dk_X12_token 37 rfl) 73 rfl hf (fun v50 hf => ?_)
    obtain ⟨v51, M52, h69, hf⟩ := cl_inv hf
    refine x_cVi C (c_X12_seen hN h69) mw_X12_seen ln_RX12_84 mi_X12_seen (hN.rc (ci := 12) sh108 rc12) (ro_of (by decide) (by decide) (by decide) (by decide)) rfl rfl (Nat.le_of_ble_eq_true rfl) (dkAt dk_X12_token 38 rfl) 76 rfl 0 0 rfl rfl ?_
    obtain ⟨v53, M54, h68, hf⟩ := cl_inv hf
    refine x_cSi C (c_X12_isLetter hN h68) mw_X12_isLetter ln_RX12_94 ms_X12_isLetter (ro_of (by decide) (by decide) (by decide) (by decide)) rfl rfl (Nat.le_of_ble_eq_true rfl) (dkAt dk_X12_token 39 rfl) 79 rfl 0 0 rfl rfl ?_
    refine x_if_eq C 131 (dkAt dk_X12_token 40 rfl) 82 rfl (by decide) hf (fun hf => ?_) (fun hf => ?_)
    · exact G.weak (L := [some (.ref (wad Γ 108))]) ⟨rfl, trivial⟩ (hk _ hf)
    · refine x_aload_n C rfl rfl (dkAt dk_X12_token 41 rfl) 83 rfl ?_
      refine x_getI C lk_RX12_98 (hN.sh sh108) (dkAt dk_X12_token 42 rfl) 86 rfl hf (fun v55 hf => ?_)
      refine x_bipush C (v := (8 : Int32)) (by decide) (dkAt dk_X12_token 43 rfl) 88 rfl ?_
      refine x_join hf (fun t56 => G Γ X t56 0 0 [some (.ref (wad Γ 108))] [] 108) (fun t56 hf => ?_) (fun j61 hj61 hf => ?_)
      · refine x_aload_n C rfl rfl (dkAt dk_X12_token 54 rfl) 109 rfl ?_
        refine x_dup C rfl (dkAt dk_X12_token 55 rfl) 110 rfl ?_
        refine x_getI C lk_RX12_98 (hN.sh sh108) (dkAt dk_X12_token 56 rfl) 113 rfl hf (fun v57 hf => ?_)
        refine x_iconst C (v := (1 : Int32)) (by decide) (dkAt dk_X12_token 57 rfl) 114 rfl ?_
        refine x_iadd C (dkAt dk_X12_token 58 rfl) 115 rfl ?_
        refine x_putI C pk_RX12_98 ⟨_, rfl⟩ (hN.sh sh108) (dkAt dk_X12_token 59 rfl) 118 rfl hf (fun M58 hf => ?_)
        refine x_aload_n C rfl rfl (dkAt dk_X12_token 60 rfl) 119 rfl ?_
        refine x_dup C rfl (dkAt dk_X12_token 61 rfl) 120 rfl ?_
        refine x_getI C lk_RX12_81 (hN.sh sh108) (dkAt dk_X12_token 62 rfl) 123 rfl hf (fun v59 hf => ?_)
        refine x_iconst C (v := (1 : Int32)) (by decide) (dkAt dk_X12_token 63 rfl) 124 rfl ?_
        refine x_iadd C (dkAt dk_X12_token 64 rfl) 125 rfl ?_
        refine x_putI C pk_RX12_81 ⟨_, rfl⟩ (hN.sh sh108) (dkAt dk_X12_token 65 rfl) 128 rfl hf (fun M60 hf => ?_)
        refine x_goto C 68 (dkAt dk_X12_token 66 rfl) (by decide) ?_
        exact G.weak (L := [some (.ref (wad Γ 108))]) ⟨rfl, trivial⟩ (ih _ hf)
      · refine x_icmp_ge C 108 (dkAt dk_X12_token 44 rfl) 91 rfl (by decide) hf (fun hf => ?_) (fun hf => ?_)
        · exact G.weak (L := [some (.ref (wad Γ 108))]) ⟨rfl, trivial⟩ (hj61 _ hf)
        · refine x_aload_n C rfl rfl (dkAt dk_X12_token 45 rfl) 92 rfl ?_
          refine x_getS C lk_RX12_33 (hN.sh sh108) (hN.sr sr108_16) (dkAt dk_X12_token 46 rfl) 95 rfl ?_
          refine x_aload_n C rfl rfl (dkAt dk_X12_token 47 rfl) 96 rfl ?_
          refine x_getI C lk_RX12_98 (hN.sh sh108) (dkAt dk_X12_token 48 rfl) 99 rfl hf (fun v62 hf => ?_)
          refine x_aload_n C rfl rfl (dkAt dk_X12_token 49 rfl) 100 rfl ?_
          refine x_aload_n C rfl rfl (dkAt dk_X12_token 50 rfl) 101 rfl ?_
          refine x_getI C lk_RX12_81 (hN.sh sh108) (dkAt dk_X12_token 51 rfl) 104 rfl hf (fun v63 hf => ?_)
          obtain ⟨v64, M65, h67, hf⟩ := cl_inv hf
          refine x_cVi C (c_X12_seen hN h67) mw_X12_seen ln_RX12_84 mi_X12_seen (hN.rc (ci := 12) sh108 rc12) (ro_of (by decide) (by decide) (by decide) (by decide)) rfl rfl (Nat.le_of_ble_eq_true rfl) (dkAt dk_X12_token 52 rfl) 107 rfl 0 0 rfl rfl ?_
          refine x_iast C (hN.sh sh115) (dkAt dk_X12_token 53 rfl) 108 rfl hf (fun M66 hf => ?_)
          exact G.weak (L := [some (.ref (wad Γ 108))]) ⟨rfl, trivial⟩ (hj61 _ hf)
set_option maxRecDepth 100000 in
theorem c_X12_token {Γ : WC} (hN : HN Γ) {Z : Nat} {M : Mem}  {rM : Unit × Mem}  (hf : f_X12_token Z M  = some rM) : Ct Γ yX12_token cX12_token 3 none (rmL 1 0 0) [.ref (wad Γ 108)] M none rM.2 := by
  refine mkN hN.1 (own := RX12) rfl (by decide) (Nat.le_of_ble_eq_true rfl) (fun X C E => ?_)
  change G Γ X M 0 0 [some (.ref (wad Γ 108))] [] 0
  unfold f_X12_token at hf
  refine G.weak (L := [some (.ref (wad Γ 108))]) ⟨rfl, trivial⟩ ?_
  refine l_X12_token_L0 hN C E ?_ Z _ hf
  intro M8 hf
  refine x_aload_n C rfl rfl (dkAt dk_X12_token 13 rfl) 27 rfl ?_
  refine x_aload_n C rfl rfl (dkAt dk_X12_token 14 rfl) 28 rfl ?_
  refine x_getI C lk_RX12_81 (hN.sh sh108) (dkAt dk_X12_token 15 rfl) 31 rfl hf (fun v9 hf => ?_)
  refine x_putI C pk_RX12_88 ⟨_, rfl⟩ (hN.sh sh108) (dkAt dk_X12_token 16 rfl) 34 rfl hf (fun M10 hf => ?_)
  refine x_aload_n C rfl rfl (dkAt dk_X12_token 17 rfl) 35 rfl ?_
  refine x_aload_n C rfl rfl (dkAt dk_X12_token 18 rfl) 36 rfl ?_
  refine x_getI C lk_RX12_81 (hN.sh sh108) (dkAt dk_X12_token 19 rfl) 39 rfl hf (fun v11 hf => ?_)
  obtain ⟨v12, M13, h76, hf⟩ := cl_inv hf
  refine x_cVi C (c_X12_seen hN h76) mw_X12_seen ln_RX12_84 mi_X12_seen (hN.rc (ci := 12) sh108 rc12) (ro_of (by decide) (by decide) (by decide) (by decide)) rfl rfl (Nat.le_of_ble_eq_true rfl) (dkAt dk_X12_token 20 rfl) 42 rfl 0 0 rfl rfl ?_
  refine x_istore_n C (L1 := [some (.ref (wad Γ 108)), some (.int v12)]) (dkAt dk_X12_token 21 rfl) 43 rfl rfl (by decide) rfl ?_
  refine x_iload_n C rfl rfl (dkAt dk_X12_token 22 rfl) 44 rfl ?_
  refine x_iconst C (v := (-1 : Int32)) (by decide) (dkAt dk_X12_token 23 rfl) 45 rfl ?_
  refine x_icmp_ne C 56 (dkAt dk_X12_token 24 rfl) 48 rfl (by decide) hf (fun hf => ?_) (fun hf => ?_)
  · refine x_iload_n C rfl rfl (dkAt dk_X12_token 29 rfl) 57 rfl ?_
    obtain ⟨v14, M15, h74, hf⟩ := cl_inv hf
    refine x_cSi C (c_X12_isLetter hN h74) mw_X12_isLetter ln_RX12_94 ms_X12_isLetter (ro_of (by decide) (by decide) (by decide) (by decide)) rfl rfl (Nat.le_of_ble_eq_true rfl) (dkAt dk_X12_token 30 rfl) 60 rfl 0 0 rfl rfl ?_
    refine x_if_eq C 152 (dkAt dk_X12_token 31 rfl) 63 rfl (by decide) hf (fun hf => ?_) (fun hf => ?_)
    · refine x_iload_n C rfl rfl (dkAt dk_X12_token 77 rfl) 153 rfl ?_
      obtain ⟨v16, M17, h47, hf⟩ := cl_inv hf
      refine x_cSi C (c_X12_isDigit hN h47) mw_X12_isDigit ln_RX12_101 ms_X12_isDigit (ro_of (by decide) (by decide) (by decide) (by decide)) rfl rfl (Nat.le_of_ble_eq_true rfl) (dkAt dk_X12_token 78 rfl) 156 rfl 0 0 rfl rfl ?_
      refine x_if_eq C 245 (dkAt dk_X12_token 79 rfl) 159 rfl (by decide) hf (fun hf => ?_) (fun hf => ?_)
      · refine x_aload_n C rfl rfl (dkAt dk_X12_token 126 rfl) 246 rfl ?_
        refine x_iload_n C rfl rfl (dkAt dk_X12_token 127 rfl) 247 rfl ?_
        refine x_bipush C (v := (59 : Int32)) (by decide) (dkAt dk_X12_token 128 rfl) 249 rfl ?_
        refine x_join hf (fun t18 => G Γ X M17 0 0 [some (.ref (wad Γ 108))] [.int t18, .ref (wad Γ 108)] 267) (fun t18 hf => ?_) (fun j22 hj22 hf => ?_)
        · refine x_putI C pk_RX12_91 ⟨_, rfl⟩ (hN.sh sh108) (dkAt dk_X12_token 138 rfl) 270 rfl hf (fun M19 hf => ?_)
          refine x_aload_n C rfl rfl (dkAt dk_X12_token 139 rfl) 271 rfl ?_
          refine x_dup C rfl (dkAt dk_X12_token 140 rfl) 272 rfl ?_
          refine x_getI C lk_RX12_81 (hN.sh sh108) (dkAt dk_X12_token 141 rfl) 275 rfl hf (fun v20 hf => ?_)
          refine x_iconst C (v := (1 : Int32)) (by decide) (dkAt dk_X12_token 142 rfl) 276 rfl ?_
          refine x_iadd C (dkAt dk_X12_token 143 rfl) 277 rfl ?_
          refine x_putI C pk_RX12_81 ⟨_, rfl⟩ (hN.sh sh108) (dkAt dk_X12_token 144 rfl) 280 rfl hf (fun M21 hf => ?_)
          exact x_vret C E hf (by decide) (by decide) (dkAt dk_X12_token 145 rfl)
        · refine x_icmp_ne C 256 (dkAt dk_X12_token 129 rfl) 252 rfl (by decide) hf (fun hf => ?_) (fun hf => ?_)
          · refine x_iload_n C rfl rfl (dkAt dk_X12_token 132 rfl) 257 rfl ?_
            refine x_bipush C (v := (45 : Int32)) (by decide) (dkAt dk_X12_token 133 rfl) 259 rfl ?_
            refine x_icmp_ne C 266 (dkAt dk_X12_token 134 rfl) 262 rfl (by decide) hf (fun hf => ?_) (fun hf => ?_)
            · refine x_iconst C (v := (5 : Int32)) (by decide) (dkAt dk_X12_token 137 rfl) 267 rfl ?_
              exact G.weak (L := [some (.ref (wad Γ 108))]) ⟨rfl, trivial⟩ (hj22 _ hf)
            · refine x_iconst C (v := (4 : Int32)) (by decide) (dkAt dk_X12_token 135 rfl) 263 rfl ?_
              refine x_goto C 267 (dkAt dk_X12_token 136 rfl) (by decide) ?_
              exact G.weak (L := [some (.ref (wad Γ 108))]) ⟨rfl, trivial⟩ (hj22 _ hf)
          · refine x_iconst C (v := (3 : Int32)) (by decide) (dkAt dk_X12_token 130 rfl) 253 rfl ?_
            refine x_goto C 267 (dkAt dk_X12_token 131 rfl) (by decide) ?_
            exact G.weak (L := [some (.ref (wad Γ 108))]) ⟨rfl, trivial⟩ (hj22 _ hf)
      · refine x_iconst C (v := (0 : Int32)) (by decide) (dkAt dk_X12_token 80 rfl) 160 rfl ?_
        refine x_istore_n C (L1 := [some (.ref (wad Γ 108)), some (.int v12), some (.int (0 : Int32))]) (dkAt dk_X12_token 81 rfl) 161 rfl rfl (by decide) rfl ?_
        refine x_aload_n C rfl rfl (dkAt dk_X12_token 82 rfl) 162 rfl ?_
        refine x_iconst C (v := (0 : Int32)) (by decide) (dkAt dk_X12_token 83 rfl) 163 rfl ?_
        refine x_putI C pk_RX12_104 ⟨_, rfl⟩ (hN.sh sh108) (dkAt dk_X12_token 84 rfl) 166 rfl hf (fun M23 hf => ?_)
        refine G.weak (L := [some (.ref (wad Γ 108)), none, some (.int (0 : Int32))]) ⟨rfl, rfl, trivial⟩ ?_
        refine l_X12_token_L166 hN C E ?_ Z _ _ hf
        intro y43 M44 hf
        refine x_aload_n C rfl rfl (dkAt dk_X12_token 117 rfl) 229 rfl ?_
        refine x_iload_n C rfl rfl (dkAt dk_X12_token 118 rfl) 230 rfl ?_
        refine x_iconst C (v := (5 : Int32)) (by decide) (dkAt dk_X12_token 119 rfl) 231 rfl ?_
        refine x_icmp_le C 238 (dkAt dk_X12_token 120 rfl) 234 rfl (by decide) hf (fun hf => ?_) (fun hf => ?_)
        · refine x_iconst C (v := (2 : Int32)) (by decide) (dkAt dk_X12_token 123 rfl) 239 rfl ?_
          refine x_putI C pk_RX12_91 ⟨_, rfl⟩ (hN.sh sh108) (dkAt dk_X12_token 124 rfl) 242 rfl hf (fun M45 hf => ?_)
          refine x_goto C 280 (dkAt dk_X12_token 125 rfl) (by decide) ?_
          exact x_vret C E hf (by decide) (by decide) (dkAt dk_X12_token 145 rfl)
        · refine x_iconst C (v := (5 : Int32)) (by decide) (dkAt dk_X12_token 121 rfl) 235 rfl ?_
          refine x_goto C 239 (dkAt dk_X12_token 122 rfl) (by decide) ?_
          refine x_putI C pk_RX12_91 ⟨_, rfl⟩ (hN.sh sh108) (dkAt dk_X12_token 124 rfl) 242 rfl hf (fun M46 hf => ?_)
          refine x_goto C 280 (dkAt dk_X12_token 125 rfl) (by decide) ?_
          exact x_vret C E hf (by decide) (by decide) (dkAt dk_X12_token 145 rfl)
    · refine x_aload_n C rfl rfl (dkAt dk_X12_token 32 rfl) 64 rfl ?_
      refine x_iconst C (v := (0 : Int32)) (by decide) (dkAt dk_X12_token 33 rfl) 65 rfl ?_
      refine x_putI C pk_RX12_98 ⟨_, rfl⟩ (hN.sh sh108) (dkAt dk_X12_token 34 rfl) 68 rfl hf (fun M48 hf => ?_)
      refine G.weak (L := [some (.ref (wad Γ 108))]) ⟨rfl, trivial⟩ ?_
      refine l_X12_token_L68 hN C E ?_ Z _ hf
      intro M70 hf
      refine x_aload_n C rfl rfl (dkAt dk_X12_token 67 rfl) 132 rfl ?_
      refine x_aload_n C rfl rfl (dkAt dk_X12_token 68 rfl) 133 rfl ?_
      refine x_getI C lk_RX12_98 (hN.sh sh108) (dkAt dk_X12_token 69 rfl) 136 rfl hf (fun v71 hf => ?_)
      refine x_bipush C (v := (8 : Int32)) (by decide) (dkAt dk_X12_token 70 rfl) 138 rfl ?_
      refine x_icmp_le C 145 (dkAt dk_X12_token 71 rfl) 141 rfl (by decide) hf (fun hf => ?_) (fun hf => ?_)
      · refine x_iconst C (v := (1 : Int32)) (by decide) (dkAt dk_X12_token 74 rfl) 146 rfl ?_
        refine x_putI C pk_RX12_91 ⟨_, rfl⟩ (hN.sh sh108) (dkAt dk_X12_token 75 rfl) 149 rfl hf (fun M72 hf => ?_)
        refine x_goto C 280 (dkAt dk_X12_token 76 rfl) (by decide) ?_
        exact x_vret C E hf (by decide) (by decide) (dkAt dk_X12_token 145 rfl)
      · refine x_iconst C (v := (5 : Int32)) (by decide) (dkAt dk_X12_token 72 rfl) 142 rfl ?_
        refine x_goto C 146 (dkAt dk_X12_token 73 rfl) (by decide) ?_
        refine x_putI C pk_RX12_91 ⟨_, rfl⟩ (hN.sh sh108) (dkAt dk_X12_token 75 rfl) 149 rfl hf (fun M73 hf => ?_)
        refine x_goto C 280 (dkAt dk_X12_token 76 rfl) (by decide) ?_
        exact x_vret C E hf (by decide) (by decide) (dkAt dk_X12_token 145 rfl)
  · refine x_aload_n C rfl rfl (dkAt dk_X12_token 25 rfl) 49 rfl ?_
    refine x_iconst C (v := (0 : Int32)) (by decide) (dkAt dk_X12_token 26 rfl) 50 rfl ?_
    refine x_putI C pk_RX12_91 ⟨_, rfl⟩ (hN.sh sh108) (dkAt dk_X12_token 27 rfl) 53 rfl hf (fun M75 hf => ?_)
    refine x_goto C 280 (dkAt dk_X12_token 28 rfl) (by decide) ?_
    exact x_vret C E hf (by decide) (by decide) (dkAt dk_X12_token 145 rfl)
def f_X12_fails (Z : Nat) (M : Mem) (p0 : Int32) : Option (Unit × Mem) :=
  bd (gI M (108) 19) (fun v1 => (if v1 = 0 then bd (sI M (108) 19 p0) (fun M2 => bd (gI M2 (108) 14) (fun v3 => bd (sI M2 (108) 20 v3) (fun M4 => some ((), M4)))) else some ((), M)))
set_option maxRecDepth 100000 in
theorem c_X12_fails {Γ : WC} (hN : HN Γ) {Z : Nat} {M : Mem} {p0 : Int32} {rM : Unit × Mem}  (hf : f_X12_fails Z M p0 = some rM) : Ct Γ yX12_fails cX12_fails 2 none (rmL 0 0 0) [.ref (wad Γ 108), .int p0] M none rM.2 := by
  refine mkN hN.1 (own := RX12) rfl (by decide) (Nat.le_of_ble_eq_true rfl) (fun X C E => ?_)
  change G Γ X M 0 0 [some (.ref (wad Γ 108)), some (.int p0)] [] 0
  unfold f_X12_fails at hf
  refine x_aload_n C rfl rfl (dkAt dk_X12_fails 0 rfl) 1 rfl ?_
  refine x_getI C lk_RX12_107 (hN.sh sh108) (dkAt dk_X12_fails 1 rfl) 4 rfl hf (fun v1 hf => ?_)
  refine x_if_ne C 20 (dkAt dk_X12_fails 2 rfl) 7 rfl (by decide) hf (fun hf => ?_) (fun hf => ?_)
  · exact x_vret C E hf (by decide) (by decide) (dkAt dk_X12_fails 10 rfl)
  · refine x_aload_n C rfl rfl (dkAt dk_X12_fails 3 rfl) 8 rfl ?_
    refine x_iload_n C rfl rfl (dkAt dk_X12_fails 4 rfl) 9 rfl ?_
    refine x_putI C pk_RX12_107 ⟨_, rfl⟩ (hN.sh sh108) (dkAt dk_X12_fails 5 rfl) 12 rfl hf (fun M2 hf => ?_)
    refine x_aload_n C rfl rfl (dkAt dk_X12_fails 6 rfl) 13 rfl ?_
    refine x_aload_n C rfl rfl (dkAt dk_X12_fails 7 rfl) 14 rfl ?_
    refine x_getI C lk_RX12_88 (hN.sh sh108) (dkAt dk_X12_fails 8 rfl) 17 rfl hf (fun v3 hf => ?_)
    refine x_putI C pk_RX12_110 ⟨_, rfl⟩ (hN.sh sh108) (dkAt dk_X12_fails 9 rfl) 20 rfl hf (fun M4 hf => ?_)
    exact x_vret C E hf (by decide) (by decide) (dkAt dk_X12_fails 10 rfl)
def f_X12_goesOn (Z : Nat) (M : Mem)  : Option (Unit × Mem) :=
  bd (gI M (108) 19) (fun v1 => (if v1 = 0 then cl (f_X12_token Z M) (fun v2 M3 => some ((), M3)) else some ((), M)))
set_option maxRecDepth 100000 in
theorem c_X12_goesOn {Γ : WC} (hN : HN Γ) {Z : Nat} {M : Mem}  {rM : Unit × Mem}  (hf : f_X12_goesOn Z M  = some rM) : Ct Γ yX12_goesOn cX12_goesOn 1 none (rmL 2 0 0) [.ref (wad Γ 108)] M none rM.2 := by
  refine mkN hN.1 (own := RX12) rfl (by decide) (Nat.le_of_ble_eq_true rfl) (fun X C E => ?_)
  change G Γ X M 0 0 [some (.ref (wad Γ 108))] [] 0
  unfold f_X12_goesOn at hf
  refine x_aload_n C rfl rfl (dkAt dk_X12_goesOn 0 rfl) 1 rfl ?_
  refine x_getI C lk_RX12_107 (hN.sh sh108) (dkAt dk_X12_goesOn 1 rfl) 4 rfl hf (fun v1 hf => ?_)
  refine x_if_ne C 11 (dkAt dk_X12_goesOn 2 rfl) 7 rfl (by decide) hf (fun hf => ?_) (fun hf => ?_)
  · exact x_vret C E hf (by decide) (by decide) (dkAt dk_X12_goesOn 5 rfl)
  · refine x_aload_n C rfl rfl (dkAt dk_X12_goesOn 3 rfl) 8 rfl ?_
    obtain ⟨v2, M3, h4, hf⟩ := cl_inv hf
    refine x_cVv C (c_X12_token hN h4) mw_X12_token ln_RX12_113 mi_X12_token (hN.rc (ci := 12) sh108 rc12) (ro_of (by decide) (by decide) (by decide) (by decide)) rfl rfl (Nat.le_of_ble_eq_true rfl) (dkAt dk_X12_goesOn 4 rfl) 11 rfl 0 0 rfl rfl ?_
    exact x_vret C E hf (by decide) (by decide) (dkAt dk_X12_goesOn 5 rfl)
def f_X12_isWord_L30 (Z : Nat) (M : Mem) (p0 : Nat) : Nat → Int32 → Option (Int32 × Mem)
  | 0, _ => none
  | n + 1, x4 => bd (gI M (108) 17) (fun v5 => (if v5 ≤ x4 then some ((1 : Int32), M) else rdI M 115 8 x4 (fun v6 => rdS p0 x4 (fun v7 => (if v6 = v7 then f_X12_isWord_L30 Z M p0 n (x4 + (1 : Int32)) else some ((0 : Int32), M))))))
def f_X12_isWord (Z : Nat) (M : Mem) (p0 : Nat) : Option (Int32 × Mem) :=
  bd (gI M (108) 19) (fun v1 => (if v1 = 0 then bd (gI M (108) 15) (fun v2 => (if v2 = (1 : Int32) then bd (gI M (108) 17) (fun v3 => (if v3 = (slen p0) then f_X12_isWord_L30 Z M p0 Z (0 : Int32) else some ((0 : Int32), M))) else some ((0 : Int32), M))) else some ((0 : Int32), M)))
set_option maxRecDepth 100000 in
theorem l_X12_isWord_L30 {Γ : WC} {X : MX} (hN : HN Γ) (C : CX Γ X cX12_isWord 3 RX12 (some .boolean) (rmL 6 0 0)) {rM : Int32 × Mem} (E : EndN Γ X (some (.int rM.1)) rM.2 0 0) {Z : Nat} {M : Mem} {p0 : Nat} (h_p0 : p0 < 10) : ∀ (n : Nat) (x4 : Int32), f_X12_isWord_L30 Z M p0 n x4 = some rM → G Γ X M 0 0 [some (.ref (wad Γ 108)), some (.ref (wst Γ p0)), some (.int x4)] [] 30 := by
  intro n
  induction n with
  | zero =>
    intro x4 hf
    have hf0 : (none : Option _) = some rM := hf
    cases hf0
  | succ n ih =>
    intro x4 hf
    rw [f_X12_isWord_L30] at hf
    refine x_iload_n C rfl rfl (dkAt dk_X12_isWord 16 rfl) 31 rfl ?_
    refine x_aload_n C rfl rfl (dkAt dk_X12_isWord 17 rfl) 32 rfl ?_
    refine x_getI C lk_RX12_98 (hN.sh sh108) (dkAt dk_X12_isWord 18 rfl) 35 rfl hf (fun v5 hf => ?_)
    refine x_icmp_ge C 60 (dkAt dk_X12_isWord 19 rfl) 38 rfl (by decide) hf (fun hf => ?_) (fun hf => ?_)
    · refine x_iconst C (v := (1 : Int32)) (by decide) (dkAt dk_X12_isWord 32 rfl) 61 rfl ?_
      exact x_zret C E (by decide) hf (by decide) (by decide) (dkAt dk_X12_isWord 33 rfl)
    · refine x_aload_n C rfl rfl (dkAt dk_X12_isWord 20 rfl) 39 rfl ?_
      refine x_getS C lk_RX12_33 (hN.sh sh108) (hN.sr sr108_16) (dkAt dk_X12_isWord 21 rfl) 42 rfl ?_
      refine x_iload_n C rfl rfl (dkAt dk_X12_isWord 22 rfl) 43 rfl ?_
      refine x_iald C (hN.sh sh115) (dkAt dk_X12_isWord 23 rfl) 44 rfl hf (fun v6 hf => ?_)
      refine x_aload_n C rfl rfl (dkAt dk_X12_isWord 24 rfl) 45 rfl ?_
      refine x_iload_n C rfl rfl (dkAt dk_X12_isWord 25 rfl) 46 rfl ?_
      refine x_charAt C hN h_p0 ln_RX12_122 ⟨by decide, by decide, by decide, by decide⟩ (Nat.le_of_ble_eq_true rfl) (dkAt dk_X12_isWord 26 rfl) 49 rfl hf (fun v7 hf => ?_)
      refine x_icmp_eq C 54 (dkAt dk_X12_isWord 27 rfl) 52 rfl (by decide) hf (fun hf => ?_) (fun hf => ?_)
      · refine x_iinc C (v := (x4 + (1 : Int32))) (L1 := [some (.ref (wad Γ 108)), some (.ref (wst Γ p0)), some (.int (x4 + (1 : Int32)))]) (dkAt dk_X12_isWord 30 rfl) 57 rfl rfl rfl (by decide) rfl ?_
        refine x_goto C 30 (dkAt dk_X12_isWord 31 rfl) (by decide) ?_
        exact G.weak (L := [some (.ref (wad Γ 108)), some (.ref (wst Γ p0)), some (.int (x4 + (1 : Int32)))]) ⟨rfl, rfl, rfl, trivial⟩ (ih _ hf)
      · refine x_iconst C (v := (0 : Int32)) (by decide) (dkAt dk_X12_isWord 28 rfl) 53 rfl ?_
        exact x_zret C E (by decide) hf (by decide) (by decide) (dkAt dk_X12_isWord 29 rfl)
set_option maxRecDepth 100000 in
theorem c_X12_isWord {Γ : WC} (hN : HN Γ) {Z : Nat} {M : Mem} {p0 : Nat} {rM : Int32 × Mem} (h_p0 : p0 < 10) (hf : f_X12_isWord Z M p0 = some rM) : Ct Γ yX12_isWord cX12_isWord 3 (some .boolean) (rmL 6 0 0) [.ref (wad Γ 108), .ref (wst Γ p0)] M (some (.int rM.1)) rM.2 := by
  refine mkN hN.1 (own := RX12) rfl (by decide) (Nat.le_of_ble_eq_true rfl) (fun X C E => ?_)
  change G Γ X M 0 0 [some (.ref (wad Γ 108)), some (.ref (wst Γ p0))] [] 0
  unfold f_X12_isWord at hf
  refine x_aload_n C rfl rfl (dkAt dk_X12_isWord 0 rfl) 1 rfl ?_
  refine x_getI C lk_RX12_107 (hN.sh sh108) (dkAt dk_X12_isWord 1 rfl) 4 rfl hf (fun v1 hf => ?_)
  refine x_if_ne C 26 (dkAt dk_X12_isWord 2 rfl) 7 rfl (by decide) hf (fun hf => ?_) (fun hf => ?_)
  · refine x_iconst C (v := (0 : Int32)) (by decide) (dkAt dk_X12_isWord 12 rfl) 27 rfl ?_
    exact x_zret C E (by decide) hf (by decide) (by decide) (dkAt dk_X12_isWord 13 rfl)
  · refine x_aload_n C rfl rfl (dkAt dk_X12_isWord 3 rfl) 8 rfl ?_
    refine x_getI C lk_RX12_91 (hN.sh sh108) (dkAt dk_X12_isWord 4 rfl) 11 rfl hf (fun v2 hf => ?_)
    refine x_iconst C (v := (1 : Int32)) (by decide) (dkAt dk_X12_isWord 5 rfl) 12 rfl ?_
    refine x_icmp_ne C 26 (dkAt dk_X12_isWord 6 rfl) 15 rfl (by decide) hf (fun hf => ?_) (fun hf => ?_)
    · refine x_iconst C (v := (0 : Int32)) (by decide) (dkAt dk_X12_isWord 12 rfl) 27 rfl ?_
      exact x_zret C E (by decide) hf (by decide) (by decide) (dkAt dk_X12_isWord 13 rfl)
    · refine x_aload_n C rfl rfl (dkAt dk_X12_isWord 7 rfl) 16 rfl ?_
      refine x_getI C lk_RX12_98 (hN.sh sh108) (dkAt dk_X12_isWord 8 rfl) 19 rfl hf (fun v3 hf => ?_)
      refine x_aload_n C rfl rfl (dkAt dk_X12_isWord 9 rfl) 20 rfl ?_
      refine x_slen C hN h_p0 ln_RX12_116 ⟨by decide, by decide, by decide, by decide⟩ (Nat.le_of_ble_eq_true rfl) (dkAt dk_X12_isWord 10 rfl) 23 rfl ?_
      refine x_icmp_eq C 28 (dkAt dk_X12_isWord 11 rfl) 26 rfl (by decide) hf (fun hf => ?_) (fun hf => ?_)
      · refine x_iconst C (v := (0 : Int32)) (by decide) (dkAt dk_X12_isWord 14 rfl) 29 rfl ?_
        refine x_istore_n C (L1 := [some (.ref (wad Γ 108)), some (.ref (wst Γ p0)), some (.int (0 : Int32))]) (dkAt dk_X12_isWord 15 rfl) 30 rfl rfl (by decide) rfl ?_
        refine G.weak (L := [some (.ref (wad Γ 108)), some (.ref (wst Γ p0)), some (.int (0 : Int32))]) ⟨rfl, rfl, rfl, trivial⟩ ?_
        refine l_X12_isWord_L30 hN C E h_p0 Z _ hf
      · refine x_iconst C (v := (0 : Int32)) (by decide) (dkAt dk_X12_isWord 12 rfl) 27 rfl ?_
        exact x_zret C E (by decide) hf (by decide) (by decide) (dkAt dk_X12_isWord 13 rfl)
def f_X12_passes (Z : Nat) (M : Mem) (p0 : Nat) : Option (Int32 × Mem) :=
  cl (f_X12_isWord Z M p0) (fun v1 M2 => (if v1 = 0 then (if v1 &&& 1 = v1 then some (v1, M2) else none) else cl (f_X12_token Z M2) (fun v3 M4 => (if v1 &&& 1 = v1 then some (v1, M4) else none))))
set_option maxRecDepth 100000 in
theorem c_X12_passes {Γ : WC} (hN : HN Γ) {Z : Nat} {M : Mem} {p0 : Nat} {rM : Int32 × Mem} (h_p0 : p0 < 10) (hf : f_X12_passes Z M p0 = some rM) : Ct Γ yX12_passes cX12_passes 3 (some .boolean) (rmL 7 0 0) [.ref (wad Γ 108), .ref (wst Γ p0)] M (some (.int rM.1)) rM.2 := by
  refine mkN hN.1 (own := RX12) rfl (by decide) (Nat.le_of_ble_eq_true rfl) (fun X C E => ?_)
  change G Γ X M 0 0 [some (.ref (wad Γ 108)), some (.ref (wst Γ p0))] [] 0
  unfold f_X12_passes at hf
  refine x_aload_n C rfl rfl (dkAt dk_X12_passes 0 rfl) 1 rfl ?_
  refine x_aload_n C rfl rfl (dkAt dk_X12_passes 1 rfl) 2 rfl ?_
  obtain ⟨v1, M2, h6, hf⟩ := cl_inv hf
  refine x_cVi C (c_X12_isWord hN h_p0 h6) mw_X12_isWord ln_RX12_126 mi_X12_isWord (hN.rc (ci := 12) sh108 rc12) (ro_of (by decide) (by decide) (by decide) (by decide)) rfl rfl (Nat.le_of_ble_eq_true rfl) (dkAt dk_X12_passes 2 rfl) 5 rfl 0 0 rfl rfl ?_
  refine x_istore_n C (L1 := [some (.ref (wad Γ 108)), some (.ref (wst Γ p0)), some (.int v1)]) (dkAt dk_X12_passes 3 rfl) 6 rfl rfl (by decide) rfl ?_
  refine x_iload_n C rfl rfl (dkAt dk_X12_passes 4 rfl) 7 rfl ?_
  refine x_if_eq C 14 (dkAt dk_X12_passes 5 rfl) 10 rfl (by decide) hf (fun hf => ?_) (fun hf => ?_)
  · refine x_iload_n C rfl rfl (dkAt dk_X12_passes 8 rfl) 15 rfl ?_
    obtain ⟨hz, hf⟩ := if_some hf
    exact x_zret C E hz hf (by decide) (by decide) (dkAt dk_X12_passes 9 rfl)
  · refine x_aload_n C rfl rfl (dkAt dk_X12_passes 6 rfl) 11 rfl ?_
    obtain ⟨v3, M4, h5, hf⟩ := cl_inv hf
    refine x_cVv C (c_X12_token hN h5) mw_X12_token ln_RX12_113 mi_X12_token (hN.rc (ci := 12) sh108 rc12) (ro_of (by decide) (by decide) (by decide) (by decide)) rfl rfl (Nat.le_of_ble_eq_true rfl) (dkAt dk_X12_passes 7 rfl) 14 rfl 0 0 rfl rfl ?_
    refine x_iload_n C rfl rfl (dkAt dk_X12_passes 8 rfl) 15 rfl ?_
    obtain ⟨hz, hf⟩ := if_some hf
    exact x_zret C E hz hf (by decide) (by decide) (dkAt dk_X12_passes 9 rfl)
def f_X12_expects (Z : Nat) (M : Mem) (p0 : Nat) : Option (Unit × Mem) :=
  cl (f_X12_passes Z M p0) (fun v1 M2 => (if v1 = 0 then cl (f_X12_fails Z M2 (1 : Int32)) (fun v3 M4 => some ((), M4)) else some ((), M2)))
set_option maxRecDepth 100000 in
theorem c_X12_expects {Γ : WC} (hN : HN Γ) {Z : Nat} {M : Mem} {p0 : Nat} {rM : Unit × Mem} (h_p0 : p0 < 10) (hf : f_X12_expects Z M p0 = some rM) : Ct Γ yX12_expects cX12_expects 2 none (rmL 8 0 0) [.ref (wad Γ 108), .ref (wst Γ p0)] M none rM.2 := by
  refine mkN hN.1 (own := RX12) rfl (by decide) (Nat.le_of_ble_eq_true rfl) (fun X C E => ?_)
  change G Γ X M 0 0 [some (.ref (wad Γ 108)), some (.ref (wst Γ p0))] [] 0
  unfold f_X12_expects at hf
  refine x_aload_n C rfl rfl (dkAt dk_X12_expects 0 rfl) 1 rfl ?_
  refine x_aload_n C rfl rfl (dkAt dk_X12_expects 1 rfl) 2 rfl ?_
  obtain ⟨v1, M2, h6, hf⟩ := cl_inv hf
  refine x_cVi C (c_X12_passes hN h_p0 h6) mw_X12_passes ln_RX12_130 mi_X12_passes (hN.rc (ci := 12) sh108 rc12) (ro_of (by decide) (by decide) (by decide) (by decide)) rfl rfl (Nat.le_of_ble_eq_true rfl) (dkAt dk_X12_expects 2 rfl) 5 rfl 0 0 rfl rfl ?_
  refine x_if_ne C 13 (dkAt dk_X12_expects 3 rfl) 8 rfl (by decide) hf (fun hf => ?_) (fun hf => ?_)
  · exact x_vret C E hf (by decide) (by decide) (dkAt dk_X12_expects 7 rfl)
  · refine x_aload_n C rfl rfl (dkAt dk_X12_expects 4 rfl) 9 rfl ?_
    refine x_iconst C (v := (1 : Int32)) (by decide) (dkAt dk_X12_expects 5 rfl) 10 rfl ?_
    obtain ⟨v3, M4, h5, hf⟩ := cl_inv hf
    refine x_cVv C (c_X12_fails hN h5) mw_X12_fails ln_RX12_133 mi_X12_fails (hN.rc (ci := 12) sh108 rc12) (ro_of (by decide) (by decide) (by decide) (by decide)) rfl rfl (Nat.le_of_ble_eq_true rfl) (dkAt dk_X12_expects 6 rfl) 13 rfl 0 0 rfl rfl ?_
    exact x_vret C E hf (by decide) (by decide) (dkAt dk_X12_expects 7 rfl)
def f_X12_numberHere (Z : Nat) (M : Mem) (p0 : Int32) (p1 : Int32) : Option (Int32 × Mem) :=
  bd (gI M (108) 15) (fun v1 => jn (fun (t2 : Mem) => bd (gI t2 (108) 19) (fun v3 => (if v3 = 0 then bd (gI t2 (108) 18) (fun v4 => some (v4, t2)) else some (p0, t2)))) (fun j5 => (if v1 = (2 : Int32) then bd (gI M (108) 18) (fun v6 => cl (f_X12_in Z M v6.toInt64 p0.toInt64 p1.toInt64) (fun v7 M8 => (if v7 = 0 then cl (f_X12_fails Z M8 (2 : Int32)) (fun v9 M10 => j5 M10) else j5 M8))) else cl (f_X12_fails Z M (1 : Int32)) (fun v13 M14 => j5 M14))))
set_option maxRecDepth 100000 in
theorem c_X12_numberHere {Γ : WC} (hN : HN Γ) {Z : Nat} {M : Mem} {p0 : Int32} {p1 : Int32} {rM : Int32 × Mem}  (hf : f_X12_numberHere Z M p0 p1 = some rM) : Ct Γ yX12_numberHere cX12_numberHere 3 (some .int) (rmL 1 0 0) [.ref (wad Γ 108), .int p0, .int p1] M (some (.int rM.1)) rM.2 := by
  refine mkN hN.1 (own := RX12) rfl (by decide) (Nat.le_of_ble_eq_true rfl) (fun X C E => ?_)
  change G Γ X M 0 0 [some (.ref (wad Γ 108)), some (.int p0), some (.int p1)] [] 0
  unfold f_X12_numberHere at hf
  refine x_aload_n C rfl rfl (dkAt dk_X12_numberHere 0 rfl) 1 rfl ?_
  refine x_getI C lk_RX12_91 (hN.sh sh108) (dkAt dk_X12_numberHere 1 rfl) 4 rfl hf (fun v1 hf => ?_)
  refine x_iconst C (v := (2 : Int32)) (by decide) (dkAt dk_X12_numberHere 2 rfl) 5 rfl ?_
  refine x_join hf (fun t2 => G Γ X t2 0 0 [some (.ref (wad Γ 108)), some (.int p0)] [] 36) (fun t2 hf => ?_) (fun j5 hj5 hf => ?_)
  · refine x_aload_n C rfl rfl (dkAt dk_X12_numberHere 20 rfl) 37 rfl ?_
    refine x_getI C lk_RX12_107 (hN.sh sh108) (dkAt dk_X12_numberHere 21 rfl) 40 rfl hf (fun v3 hf => ?_)
    refine x_if_eq C 47 (dkAt dk_X12_numberHere 22 rfl) 43 rfl (by decide) hf (fun hf => ?_) (fun hf => ?_)
    · refine x_aload_n C rfl rfl (dkAt dk_X12_numberHere 25 rfl) 48 rfl ?_
      refine x_getI C lk_RX12_104 (hN.sh sh108) (dkAt dk_X12_numberHere 26 rfl) 51 rfl hf (fun v4 hf => ?_)
      exact x_iret C E hf (by decide) (by decide) (dkAt dk_X12_numberHere 27 rfl)
    · refine x_iload_n C rfl rfl (dkAt dk_X12_numberHere 23 rfl) 44 rfl ?_
      refine x_goto C 51 (dkAt dk_X12_numberHere 24 rfl) (by decide) ?_
      exact x_iret C E hf (by decide) (by decide) (dkAt dk_X12_numberHere 27 rfl)
  · refine x_icmp_eq C 16 (dkAt dk_X12_numberHere 3 rfl) 8 rfl (by decide) hf (fun hf => ?_) (fun hf => ?_)
    · refine x_aload_n C rfl rfl (dkAt dk_X12_numberHere 8 rfl) 17 rfl ?_
      refine x_getI C lk_RX12_104 (hN.sh sh108) (dkAt dk_X12_numberHere 9 rfl) 20 rfl hf (fun v6 hf => ?_)
      refine x_i2l C (dkAt dk_X12_numberHere 10 rfl) 21 rfl ?_
      refine x_iload_n C rfl rfl (dkAt dk_X12_numberHere 11 rfl) 22 rfl ?_
      refine x_i2l C (dkAt dk_X12_numberHere 12 rfl) 23 rfl ?_
      refine x_iload_n C rfl rfl (dkAt dk_X12_numberHere 13 rfl) 24 rfl ?_
      refine x_i2l C (dkAt dk_X12_numberHere 14 rfl) 25 rfl ?_
      obtain ⟨v7, M8, h12, hf⟩ := cl_inv hf
      refine x_cSi C (c_X12_in hN h12) mw_X12_in ln_RX12_137 ms_X12_in (ro_of (by decide) (by decide) (by decide) (by decide)) rfl rfl (Nat.le_of_ble_eq_true rfl) (dkAt dk_X12_numberHere 15 rfl) 28 rfl 0 0 rfl rfl ?_
      refine x_if_ne C 36 (dkAt dk_X12_numberHere 16 rfl) 31 rfl (by decide) hf (fun hf => ?_) (fun hf => ?_)
      · exact G.weak (L := [some (.ref (wad Γ 108)), some (.int p0)]) ⟨rfl, rfl, trivial⟩ (hj5 _ hf)
      · refine x_aload_n C rfl rfl (dkAt dk_X12_numberHere 17 rfl) 32 rfl ?_
        refine x_iconst C (v := (2 : Int32)) (by decide) (dkAt dk_X12_numberHere 18 rfl) 33 rfl ?_
        obtain ⟨v9, M10, h11, hf⟩ := cl_inv hf
        refine x_cVv C (c_X12_fails hN h11) mw_X12_fails ln_RX12_133 mi_X12_fails (hN.rc (ci := 12) sh108 rc12) (ro_of (by decide) (by decide) (by decide) (by decide)) rfl rfl (Nat.le_of_ble_eq_true rfl) (dkAt dk_X12_numberHere 19 rfl) 36 rfl 0 0 rfl rfl ?_
        exact G.weak (L := [some (.ref (wad Γ 108)), some (.int p0)]) ⟨rfl, rfl, trivial⟩ (hj5 _ hf)
    · refine x_aload_n C rfl rfl (dkAt dk_X12_numberHere 4 rfl) 9 rfl ?_
      refine x_iconst C (v := (1 : Int32)) (by decide) (dkAt dk_X12_numberHere 5 rfl) 10 rfl ?_
      obtain ⟨v13, M14, h15, hf⟩ := cl_inv hf
      refine x_cVv C (c_X12_fails hN h15) mw_X12_fails ln_RX12_133 mi_X12_fails (hN.rc (ci := 12) sh108 rc12) (ro_of (by decide) (by decide) (by decide) (by decide)) rfl rfl (Nat.le_of_ble_eq_true rfl) (dkAt dk_X12_numberHere 6 rfl) 13 rfl 0 0 rfl rfl ?_
      refine x_goto C 36 (dkAt dk_X12_numberHere 7 rfl) (by decide) ?_
      exact G.weak (L := [some (.ref (wad Γ 108)), some (.int p0)]) ⟨rfl, rfl, trivial⟩ (hj5 _ hf)
def f_X12_takes (Z : Nat) (M : Mem) (p0 : Int32) (p1 : Int32) : Option (Int32 × Mem) :=
  cl (f_X12_numberHere Z M p0 p1) (fun v1 M2 => cl (f_X12_goesOn Z M2) (fun v3 M4 => some (v1, M4)))
set_option maxRecDepth 100000 in
theorem c_X12_takes {Γ : WC} (hN : HN Γ) {Z : Nat} {M : Mem} {p0 : Int32} {p1 : Int32} {rM : Int32 × Mem}  (hf : f_X12_takes Z M p0 p1 = some rM) : Ct Γ yX12_takes cX12_takes 4 (some .int) (rmL 3 0 0) [.ref (wad Γ 108), .int p0, .int p1] M (some (.int rM.1)) rM.2 := by
  refine mkN hN.1 (own := RX12) rfl (by decide) (Nat.le_of_ble_eq_true rfl) (fun X C E => ?_)
  change G Γ X M 0 0 [some (.ref (wad Γ 108)), some (.int p0), some (.int p1)] [] 0
  unfold f_X12_takes at hf
  refine x_aload_n C rfl rfl (dkAt dk_X12_takes 0 rfl) 1 rfl ?_
  refine x_iload_n C rfl rfl (dkAt dk_X12_takes 1 rfl) 2 rfl ?_
  refine x_iload_n C rfl rfl (dkAt dk_X12_takes 2 rfl) 3 rfl ?_
  obtain ⟨v1, M2, h6, hf⟩ := cl_inv hf
  refine x_cVi C (c_X12_numberHere hN h6) mw_X12_numberHere ln_RX12_141 mi_X12_numberHere (hN.rc (ci := 12) sh108 rc12) (ro_of (by decide) (by decide) (by decide) (by decide)) rfl rfl (Nat.le_of_ble_eq_true rfl) (dkAt dk_X12_takes 3 rfl) 6 rfl 0 0 rfl rfl ?_
  refine x_istore_n C (L1 := [some (.ref (wad Γ 108)), some (.int p0), some (.int p1), some (.int v1)]) (dkAt dk_X12_takes 4 rfl) 7 rfl rfl (by decide) rfl ?_
  refine x_aload_n C rfl rfl (dkAt dk_X12_takes 5 rfl) 8 rfl ?_
  obtain ⟨v3, M4, h5, hf⟩ := cl_inv hf
  refine x_cVv C (c_X12_goesOn hN h5) mw_X12_goesOn ln_RX12_145 mi_X12_goesOn (hN.rc (ci := 12) sh108 rc12) (ro_of (by decide) (by decide) (by decide) (by decide)) rfl rfl (Nat.le_of_ble_eq_true rfl) (dkAt dk_X12_takes 6 rfl) 11 rfl 0 0 rfl rfl ?_
  refine x_iload_n C rfl rfl (dkAt dk_X12_takes 7 rfl) 12 rfl ?_
  exact x_iret C E hf (by decide) (by decide) (dkAt dk_X12_takes 8 rfl)
def f_X12_takes_ (Z : Nat) (M : Mem) (p0 : Nat) (p1 : Int32) (p2 : Int32) : Option (Int32 × Mem) :=
  cl (f_X12_expects Z M p0) (fun v1 M2 => cl (f_X12_takes Z M2 p1 p2) (fun v3 M4 => some (v3, M4)))
set_option maxRecDepth 100000 in
theorem c_X12_takes_ {Γ : WC} (hN : HN Γ) {Z : Nat} {M : Mem} {p0 : Nat} {p1 : Int32} {p2 : Int32} {rM : Int32 × Mem} (h_p0 : p0 < 10) (hf : f_X12_takes_ Z M p0 p1 p2 = some rM) : Ct Γ yX12_takes_ cX12_takes_ 4 (some .int) (rmL 9 0 0) [.ref (wad Γ 108), .ref (wst Γ p0), .int p1, .int p2] M (some (.int rM.1)) rM.2 := by
  refine mkN hN.1 (own := RX12) rfl (by decide) (Nat.le_of_ble_eq_true rfl) (fun X C E => ?_)
  change G Γ X M 0 0 [some (.ref (wad Γ 108)), some (.ref (wst Γ p0)), some (.int p1), some (.int p2)] [] 0
  unfold f_X12_takes_ at hf
  refine x_aload_n C rfl rfl (dkAt dk_X12_takes_ 0 rfl) 1 rfl ?_
  refine x_aload_n C rfl rfl (dkAt dk_X12_takes_ 1 rfl) 2 rfl ?_
  obtain ⟨v1, M2, h6, hf⟩ := cl_inv hf
  refine x_cVv C (c_X12_expects hN h_p0 h6) mw_X12_expects ln_RX12_148 mi_X12_expects (hN.rc (ci := 12) sh108 rc12) (ro_of (by decide) (by decide) (by decide) (by decide)) rfl rfl (Nat.le_of_ble_eq_true rfl) (dkAt dk_X12_takes_ 2 rfl) 5 rfl 0 0 rfl rfl ?_
  refine x_aload_n C rfl rfl (dkAt dk_X12_takes_ 3 rfl) 6 rfl ?_
  refine x_iload_n C rfl rfl (dkAt dk_X12_takes_ 4 rfl) 7 rfl ?_
  refine x_iload_n C rfl rfl (dkAt dk_X12_takes_ 5 rfl) 8 rfl ?_
  obtain ⟨v3, M4, h5, hf⟩ := cl_inv hf
  refine x_cVi C (c_X12_takes hN h5) mw_X12_takes ln_RX12_152 mi_X12_takes (hN.rc (ci := 12) sh108 rc12) (ro_of (by decide) (by decide) (by decide) (by decide)) rfl rfl (Nat.le_of_ble_eq_true rfl) (dkAt dk_X12_takes_ 6 rfl) 11 rfl 0 0 rfl rfl ?_
  exact x_iret C E hf (by decide) (by decide) (dkAt dk_X12_takes_ 7 rfl)
def f_X12_puts (Z : Nat) (M : Mem) (p0 : Int32) (p1 : Int32) : Option (Unit × Mem) :=
  bd (gI M (108) 19) (fun v1 => (if v1 = 0 then wrI M 113 344 p0 p1 (fun M2 => some ((), M2)) else some ((), M)))
set_option maxRecDepth 100000 in
theorem c_X12_puts {Γ : WC} (hN : HN Γ) {Z : Nat} {M : Mem} {p0 : Int32} {p1 : Int32} {rM : Unit × Mem}  (hf : f_X12_puts Z M p0 p1 = some rM) : Ct Γ yX12_puts cX12_puts 3 none (rmL 0 0 0) [.ref (wad Γ 108), .int p0, .int p1] M none rM.2 := by
  refine mkN hN.1 (own := RX12) rfl (by decide) (Nat.le_of_ble_eq_true rfl) (fun X C E => ?_)
  change G Γ X M 0 0 [some (.ref (wad Γ 108)), some (.int p0), some (.int p1)] [] 0
  unfold f_X12_puts at hf
  refine x_aload_n C rfl rfl (dkAt dk_X12_puts 0 rfl) 1 rfl ?_
  refine x_getI C lk_RX12_107 (hN.sh sh108) (dkAt dk_X12_puts 1 rfl) 4 rfl hf (fun v1 hf => ?_)
  refine x_if_ne C 14 (dkAt dk_X12_puts 2 rfl) 7 rfl (by decide) hf (fun hf => ?_) (fun hf => ?_)
  · exact x_vret C E hf (by decide) (by decide) (dkAt dk_X12_puts 8 rfl)
  · refine x_aload_n C rfl rfl (dkAt dk_X12_puts 3 rfl) 8 rfl ?_
    refine x_getS C lk_RX12_23 (hN.sh sh108) (hN.sr sr108_7) (dkAt dk_X12_puts 4 rfl) 11 rfl ?_
    refine x_iload_n C rfl rfl (dkAt dk_X12_puts 5 rfl) 12 rfl ?_
    refine x_iload_n C rfl rfl (dkAt dk_X12_puts 6 rfl) 13 rfl ?_
    refine x_iast C (hN.sh sh113) (dkAt dk_X12_puts 7 rfl) 14 rfl hf (fun M2 hf => ?_)
    exact x_vret C E hf (by decide) (by decide) (dkAt dk_X12_puts 8 rfl)
def f_X12_stateHere (Z : Nat) (M : Mem)  : Option (Int32 × Mem) :=
  rdI M 113 344 (0 : Int32) (fun v1 => cl (f_X12_numberHere Z M (0 : Int32) (v1 - (1 : Int32))) (fun v2 M3 => some (v2, M3)))
set_option maxRecDepth 100000 in
theorem c_X12_stateHere {Γ : WC} (hN : HN Γ) {Z : Nat} {M : Mem}  {rM : Int32 × Mem}  (hf : f_X12_stateHere Z M  = some rM) : Ct Γ yX12_stateHere cX12_stateHere 1 (some .int) (rmL 2 0 0) [.ref (wad Γ 108)] M (some (.int rM.1)) rM.2 := by
  refine mkN hN.1 (own := RX12) rfl (by decide) (Nat.le_of_ble_eq_true rfl) (fun X C E => ?_)
  change G Γ X M 0 0 [some (.ref (wad Γ 108))] [] 0
  unfold f_X12_stateHere at hf
  refine x_aload_n C rfl rfl (dkAt dk_X12_stateHere 0 rfl) 1 rfl ?_
  refine x_iconst C (v := (0 : Int32)) (by decide) (dkAt dk_X12_stateHere 1 rfl) 2 rfl ?_
  refine x_aload_n C rfl rfl (dkAt dk_X12_stateHere 2 rfl) 3 rfl ?_
  refine x_getS C lk_RX12_23 (hN.sh sh108) (hN.sr sr108_7) (dkAt dk_X12_stateHere 3 rfl) 6 rfl ?_
  refine x_iconst C (v := (0 : Int32)) (by decide) (dkAt dk_X12_stateHere 4 rfl) 7 rfl ?_
  refine x_iald C (hN.sh sh113) (dkAt dk_X12_stateHere 5 rfl) 8 rfl hf (fun v1 hf => ?_)
  refine x_iconst C (v := (1 : Int32)) (by decide) (dkAt dk_X12_stateHere 6 rfl) 9 rfl ?_
  refine x_isub C (dkAt dk_X12_stateHere 7 rfl) 10 rfl ?_
  obtain ⟨v2, M3, h4, hf⟩ := cl_inv hf
  refine x_cVi C (c_X12_numberHere hN h4) mw_X12_numberHere ln_RX12_141 mi_X12_numberHere (hN.rc (ci := 12) sh108 rc12) (ro_of (by decide) (by decide) (by decide) (by decide)) rfl rfl (Nat.le_of_ble_eq_true rfl) (dkAt dk_X12_stateHere 8 rfl) 13 rfl 0 0 rfl rfl ?_
  exact x_iret C E hf (by decide) (by decide) (dkAt dk_X12_stateHere 9 rfl)
def f_X12_budgetLine (Z : Nat) (M : Mem)  : Option (Unit × Mem) :=
  rdI M 113 344 (1 : Int32) (fun v1 => jn (fun (t2 : Mem) => cl (f_X12_goesOn Z t2) (fun v3 M4 => cl (f_X12_takes Z M4 (0 : Int32) (9999 : Int32)) (fun v5 M6 => rdI M6 113 344 (1 : Int32) (fun v7 => cl (f_X12_puts Z M6 ((5 : Int32) + v7) v5) (fun v8 M9 => rdI M9 113 344 (1 : Int32) (fun v10 => bd (gI M9 (108) 19) (fun v11 => (if v11 = 0 then wrI M9 113 344 (1 : Int32) (v10 + (1 : Int32)) (fun M13 => some ((), M13)) else wrI M9 113 344 (1 : Int32) (v10 + (0 : Int32)) (fun M12 => some ((), M12)))))))))) (fun j17 => (if v1 = (3 : Int32) then cl (f_X12_fails Z M (4 : Int32)) (fun v18 M19 => j17 M19) else j17 M)))
set_option maxRecDepth 100000 in
theorem c_X12_budgetLine {Γ : WC} (hN : HN Γ) {Z : Nat} {M : Mem}  {rM : Unit × Mem}  (hf : f_X12_budgetLine Z M  = some rM) : Ct Γ yX12_budgetLine cX12_budgetLine 2 none (rmL 4 0 0) [.ref (wad Γ 108)] M none rM.2 := by
  refine mkN hN.1 (own := RX12) rfl (by decide) (Nat.le_of_ble_eq_true rfl) (fun X C E => ?_)
  change G Γ X M 0 0 [some (.ref (wad Γ 108))] [] 0
  unfold f_X12_budgetLine at hf
  refine x_aload_n C rfl rfl (dkAt dk_X12_budgetLine 0 rfl) 1 rfl ?_
  refine x_getS C lk_RX12_23 (hN.sh sh108) (hN.sr sr108_7) (dkAt dk_X12_budgetLine 1 rfl) 4 rfl ?_
  refine x_iconst C (v := (1 : Int32)) (by decide) (dkAt dk_X12_budgetLine 2 rfl) 5 rfl ?_
  refine x_iald C (hN.sh sh113) (dkAt dk_X12_budgetLine 3 rfl) 6 rfl hf (fun v1 hf => ?_)
  refine x_iconst C (v := (3 : Int32)) (by decide) (dkAt dk_X12_budgetLine 4 rfl) 7 rfl ?_
  refine x_join hf (fun t2 => G Γ X t2 0 0 [some (.ref (wad Γ 108))] [] 15) (fun t2 hf => ?_) (fun j17 hj17 hf => ?_)
  · refine x_aload_n C rfl rfl (dkAt dk_X12_budgetLine 9 rfl) 16 rfl ?_
    obtain ⟨v3, M4, h16, hf⟩ := cl_inv hf
    refine x_cVv C (c_X12_goesOn hN h16) mw_X12_goesOn ln_RX12_145 mi_X12_goesOn (hN.rc (ci := 12) sh108 rc12) (ro_of (by decide) (by decide) (by decide) (by decide)) rfl rfl (Nat.le_of_ble_eq_true rfl) (dkAt dk_X12_budgetLine 10 rfl) 19 rfl 0 0 rfl rfl ?_
    refine x_aload_n C rfl rfl (dkAt dk_X12_budgetLine 11 rfl) 20 rfl ?_
    refine x_iconst C (v := (0 : Int32)) (by decide) (dkAt dk_X12_budgetLine 12 rfl) 21 rfl ?_
    refine x_sipush C (v := (9999 : Int32)) (by decide) (dkAt dk_X12_budgetLine 13 rfl) 24 rfl ?_
    obtain ⟨v5, M6, h15, hf⟩ := cl_inv hf
    refine x_cVi C (c_X12_takes hN h15) mw_X12_takes ln_RX12_152 mi_X12_takes (hN.rc (ci := 12) sh108 rc12) (ro_of (by decide) (by decide) (by decide) (by decide)) rfl rfl (Nat.le_of_ble_eq_true rfl) (dkAt dk_X12_budgetLine 14 rfl) 27 rfl 0 0 rfl rfl ?_
    refine x_istore_n C (L1 := [some (.ref (wad Γ 108)), some (.int v5)]) (dkAt dk_X12_budgetLine 15 rfl) 28 rfl rfl (by decide) rfl ?_
    refine x_aload_n C rfl rfl (dkAt dk_X12_budgetLine 16 rfl) 29 rfl ?_
    refine x_iconst C (v := (5 : Int32)) (by decide) (dkAt dk_X12_budgetLine 17 rfl) 30 rfl ?_
    refine x_aload_n C rfl rfl (dkAt dk_X12_budgetLine 18 rfl) 31 rfl ?_
    refine x_getS C lk_RX12_23 (hN.sh sh108) (hN.sr sr108_7) (dkAt dk_X12_budgetLine 19 rfl) 34 rfl ?_
    refine x_iconst C (v := (1 : Int32)) (by decide) (dkAt dk_X12_budgetLine 20 rfl) 35 rfl ?_
    refine x_iald C (hN.sh sh113) (dkAt dk_X12_budgetLine 21 rfl) 36 rfl hf (fun v7 hf => ?_)
    refine x_iadd C (dkAt dk_X12_budgetLine 22 rfl) 37 rfl ?_
    refine x_iload_n C rfl rfl (dkAt dk_X12_budgetLine 23 rfl) 38 rfl ?_
    obtain ⟨v8, M9, h14, hf⟩ := cl_inv hf
    refine x_cVv C (c_X12_puts hN h14) mw_X12_puts ln_RX12_155 mi_X12_puts (hN.rc (ci := 12) sh108 rc12) (ro_of (by decide) (by decide) (by decide) (by decide)) rfl rfl (Nat.le_of_ble_eq_true rfl) (dkAt dk_X12_budgetLine 24 rfl) 41 rfl 0 0 rfl rfl ?_
    refine x_aload_n C rfl rfl (dkAt dk_X12_budgetLine 25 rfl) 42 rfl ?_
    refine x_getS C lk_RX12_23 (hN.sh sh108) (hN.sr sr108_7) (dkAt dk_X12_budgetLine 26 rfl) 45 rfl ?_
    refine x_iconst C (v := (1 : Int32)) (by decide) (dkAt dk_X12_budgetLine 27 rfl) 46 rfl ?_
    refine x_dup2 C rfl rfl (dkAt dk_X12_budgetLine 28 rfl) 47 rfl ?_
    refine x_iald C (hN.sh sh113) (dkAt dk_X12_budgetLine 29 rfl) 48 rfl hf (fun v10 hf => ?_)
    refine x_aload_n C rfl rfl (dkAt dk_X12_budgetLine 30 rfl) 49 rfl ?_
    refine x_getI C lk_RX12_107 (hN.sh sh108) (dkAt dk_X12_budgetLine 31 rfl) 52 rfl hf (fun v11 hf => ?_)
    refine x_if_ne C 59 (dkAt dk_X12_budgetLine 32 rfl) 55 rfl (by decide) hf (fun hf => ?_) (fun hf => ?_)
    · refine x_iconst C (v := (0 : Int32)) (by decide) (dkAt dk_X12_budgetLine 35 rfl) 60 rfl ?_
      refine x_iadd C (dkAt dk_X12_budgetLine 36 rfl) 61 rfl ?_
      refine x_iast C (hN.sh sh113) (dkAt dk_X12_budgetLine 37 rfl) 62 rfl hf (fun M12 hf => ?_)
      exact x_vret C E hf (by decide) (by decide) (dkAt dk_X12_budgetLine 38 rfl)
    · refine x_iconst C (v := (1 : Int32)) (by decide) (dkAt dk_X12_budgetLine 33 rfl) 56 rfl ?_
      refine x_goto C 60 (dkAt dk_X12_budgetLine 34 rfl) (by decide) ?_
      refine x_iadd C (dkAt dk_X12_budgetLine 36 rfl) 61 rfl ?_
      refine x_iast C (hN.sh sh113) (dkAt dk_X12_budgetLine 37 rfl) 62 rfl hf (fun M13 hf => ?_)
      exact x_vret C E hf (by decide) (by decide) (dkAt dk_X12_budgetLine 38 rfl)
  · refine x_icmp_ne C 15 (dkAt dk_X12_budgetLine 5 rfl) 10 rfl (by decide) hf (fun hf => ?_) (fun hf => ?_)
    · exact G.weak (L := [some (.ref (wad Γ 108))]) ⟨rfl, trivial⟩ (hj17 _ hf)
    · refine x_aload_n C rfl rfl (dkAt dk_X12_budgetLine 6 rfl) 11 rfl ?_
      refine x_iconst C (v := (4 : Int32)) (by decide) (dkAt dk_X12_budgetLine 7 rfl) 12 rfl ?_
      obtain ⟨v18, M19, h20, hf⟩ := cl_inv hf
      refine x_cVv C (c_X12_fails hN h20) mw_X12_fails ln_RX12_133 mi_X12_fails (hN.rc (ci := 12) sh108 rc12) (ro_of (by decide) (by decide) (by decide) (by decide)) rfl rfl (Nat.le_of_ble_eq_true rfl) (dkAt dk_X12_budgetLine 8 rfl) 15 rfl 0 0 rfl rfl ?_
      exact G.weak (L := [some (.ref (wad Γ 108))]) ⟨rfl, trivial⟩ (hj17 _ hf)
def f_X12_usesRead (Z : Nat) (M : Mem) (p0 : Int32) : Option (Unit × Mem) :=
  rdI M 113 344 (1 : Int32) (fun v1 => cl (f_X12_numberHere Z M (0 : Int32) (v1 - (1 : Int32))) (fun v2 M3 => bd (gI M3 (108) 19) (fun v4 => jn (fun (t5 : Int32) => bd (gI M3 (108) 19) (fun v6 => jn (fun (t7 : Mem) => cl (f_X12_goesOn Z t7) (fun v8 M9 => cl (f_X12_takes Z M9 (1 : Int32) (99 : Int32)) (fun v10 M11 => cl (f_X12_puts Z M11 (((32 : Int32) + ((3 : Int32) * p0)) + t5) v10) (fun v12 M13 => some ((), M13))))) (fun j17 => (if v6 = 0 then rdI M3 113 344 (((32 : Int32) + ((3 : Int32) * p0)) + t5) (fun v18 => (if v18 ≤ 0 then j17 M3 else cl (f_X12_fails Z M3 (3 : Int32)) (fun v19 M20 => j17 M20))) else j17 M3)))) (fun j22 => (if v4 = 0 then j22 v2 else j22 (0 : Int32))))))
set_option maxRecDepth 100000 in
theorem c_X12_usesRead {Γ : WC} (hN : HN Γ) {Z : Nat} {M : Mem} {p0 : Int32} {rM : Unit × Mem}  (hf : f_X12_usesRead Z M p0 = some rM) : Ct Γ yX12_usesRead cX12_usesRead 5 none (rmL 4 0 0) [.ref (wad Γ 108), .int p0] M none rM.2 := by
  refine mkN hN.1 (own := RX12) rfl (by decide) (Nat.le_of_ble_eq_true rfl) (fun X C E => ?_)
  change G Γ X M 0 0 [some (.ref (wad Γ 108)), some (.int p0)] [] 0
  unfold f_X12_usesRead at hf
  refine x_aload_n C rfl rfl (dkAt dk_X12_usesRead 0 rfl) 1 rfl ?_
  refine x_iconst C (v := (0 : Int32)) (by decide) (dkAt dk_X12_usesRead 1 rfl) 2 rfl ?_
  refine x_aload_n C rfl rfl (dkAt dk_X12_usesRead 2 rfl) 3 rfl ?_
  refine x_getS C lk_RX12_23 (hN.sh sh108) (hN.sr sr108_7) (dkAt dk_X12_usesRead 3 rfl) 6 rfl ?_
  refine x_iconst C (v := (1 : Int32)) (by decide) (dkAt dk_X12_usesRead 4 rfl) 7 rfl ?_
  refine x_iald C (hN.sh sh113) (dkAt dk_X12_usesRead 5 rfl) 8 rfl hf (fun v1 hf => ?_)
  refine x_iconst C (v := (1 : Int32)) (by decide) (dkAt dk_X12_usesRead 6 rfl) 9 rfl ?_
  refine x_isub C (dkAt dk_X12_usesRead 7 rfl) 10 rfl ?_
  obtain ⟨v2, M3, h23, hf⟩ := cl_inv hf
  refine x_cVi C (c_X12_numberHere hN h23) mw_X12_numberHere ln_RX12_141 mi_X12_numberHere (hN.rc (ci := 12) sh108 rc12) (ro_of (by decide) (by decide) (by decide) (by decide)) rfl rfl (Nat.le_of_ble_eq_true rfl) (dkAt dk_X12_usesRead 8 rfl) 13 rfl 0 0 rfl rfl ?_
  refine x_istore_n C (L1 := [some (.ref (wad Γ 108)), some (.int p0), some (.int v2)]) (dkAt dk_X12_usesRead 9 rfl) 14 rfl rfl (by decide) rfl ?_
  refine x_bipush C (v := (32 : Int32)) (by decide) (dkAt dk_X12_usesRead 10 rfl) 16 rfl ?_
  refine x_iconst C (v := (3 : Int32)) (by decide) (dkAt dk_X12_usesRead 11 rfl) 17 rfl ?_
  refine x_iload_n C rfl rfl (dkAt dk_X12_usesRead 12 rfl) 18 rfl ?_
  refine x_imul C (dkAt dk_X12_usesRead 13 rfl) 19 rfl ?_
  refine x_iadd C (dkAt dk_X12_usesRead 14 rfl) 20 rfl ?_
  refine x_aload_n C rfl rfl (dkAt dk_X12_usesRead 15 rfl) 21 rfl ?_
  refine x_getI C lk_RX12_107 (hN.sh sh108) (dkAt dk_X12_usesRead 16 rfl) 24 rfl hf (fun v4 hf => ?_)
  refine x_join hf (fun t5 => G Γ X M3 0 0 [some (.ref (wad Γ 108))] [.int t5, .int ((32 : Int32) + ((3 : Int32) * p0))] 32) (fun t5 hf => ?_) (fun j22 hj22 hf => ?_)
  · refine x_iadd C (dkAt dk_X12_usesRead 21 rfl) 33 rfl ?_
    refine x_istore_n C (L1 := [some (.ref (wad Γ 108)), none, none, some (.int (((32 : Int32) + ((3 : Int32) * p0)) + t5))]) (dkAt dk_X12_usesRead 22 rfl) 34 rfl rfl (by decide) rfl ?_
    refine x_aload_n C rfl rfl (dkAt dk_X12_usesRead 23 rfl) 35 rfl ?_
    refine x_getI C lk_RX12_107 (hN.sh sh108) (dkAt dk_X12_usesRead 24 rfl) 38 rfl hf (fun v6 hf => ?_)
    refine x_join hf (fun t7 => G Γ X t7 0 0 [some (.ref (wad Γ 108)), none, none, some (.int (((32 : Int32) + ((3 : Int32) * p0)) + t5))] [] 55) (fun t7 hf => ?_) (fun j17 hj17 hf => ?_)
    · refine x_aload_n C rfl rfl (dkAt dk_X12_usesRead 34 rfl) 56 rfl ?_
      obtain ⟨v8, M9, h16, hf⟩ := cl_inv hf
      refine x_cVv C (c_X12_goesOn hN h16) mw_X12_goesOn ln_RX12_145 mi_X12_goesOn (hN.rc (ci := 12) sh108 rc12) (ro_of (by decide) (by decide) (by decide) (by decide)) rfl rfl (Nat.le_of_ble_eq_true rfl) (dkAt dk_X12_usesRead 35 rfl) 59 rfl 0 0 rfl rfl ?_
      refine x_aload_n C rfl rfl (dkAt dk_X12_usesRead 36 rfl) 60 rfl ?_
      refine x_iconst C (v := (1 : Int32)) (by decide) (dkAt dk_X12_usesRead 37 rfl) 61 rfl ?_
      refine x_bipush C (v := (99 : Int32)) (by decide) (dkAt dk_X12_usesRead 38 rfl) 63 rfl ?_
      obtain ⟨v10, M11, h15, hf⟩ := cl_inv hf
      refine x_cVi C (c_X12_takes hN h15) mw_X12_takes ln_RX12_152 mi_X12_takes (hN.rc (ci := 12) sh108 rc12) (ro_of (by decide) (by decide) (by decide) (by decide)) rfl rfl (Nat.le_of_ble_eq_true rfl) (dkAt dk_X12_usesRead 39 rfl) 66 rfl 0 0 rfl rfl ?_
      refine x_istore C (L1 := [some (.ref (wad Γ 108)), none, none, some (.int (((32 : Int32) + ((3 : Int32) * p0)) + t5)), some (.int v10)]) (dkAt dk_X12_usesRead 40 rfl) 68 rfl (by decide) rfl ?_
      refine x_aload_n C rfl rfl (dkAt dk_X12_usesRead 41 rfl) 69 rfl ?_
      refine x_iload_n C rfl rfl (dkAt dk_X12_usesRead 42 rfl) 70 rfl ?_
      refine x_iload C rfl (dkAt dk_X12_usesRead 43 rfl) 72 rfl ?_
      obtain ⟨v12, M13, h14, hf⟩ := cl_inv hf
      refine x_cVv C (c_X12_puts hN h14) mw_X12_puts ln_RX12_155 mi_X12_puts (hN.rc (ci := 12) sh108 rc12) (ro_of (by decide) (by decide) (by decide) (by decide)) rfl rfl (Nat.le_of_ble_eq_true rfl) (dkAt dk_X12_usesRead 44 rfl) 75 rfl 0 0 rfl rfl ?_
      exact x_vret C E hf (by decide) (by decide) (dkAt dk_X12_usesRead 45 rfl)
    · refine x_if_ne C 55 (dkAt dk_X12_usesRead 25 rfl) 41 rfl (by decide) hf (fun hf => ?_) (fun hf => ?_)
      · exact G.weak (L := [some (.ref (wad Γ 108)), none, none, some (.int (((32 : Int32) + ((3 : Int32) * p0)) + t5))]) ⟨rfl, rfl, trivial⟩ (hj17 _ hf)
      · refine x_aload_n C rfl rfl (dkAt dk_X12_usesRead 26 rfl) 42 rfl ?_
        refine x_getS C lk_RX12_23 (hN.sh sh108) (hN.sr sr108_7) (dkAt dk_X12_usesRead 27 rfl) 45 rfl ?_
        refine x_iload_n C rfl rfl (dkAt dk_X12_usesRead 28 rfl) 46 rfl ?_
        refine x_iald C (hN.sh sh113) (dkAt dk_X12_usesRead 29 rfl) 47 rfl hf (fun v18 hf => ?_)
        refine x_if_le C 55 (dkAt dk_X12_usesRead 30 rfl) 50 rfl (by decide) hf (fun hf => ?_) (fun hf => ?_)
        · exact G.weak (L := [some (.ref (wad Γ 108)), none, none, some (.int (((32 : Int32) + ((3 : Int32) * p0)) + t5))]) ⟨rfl, rfl, trivial⟩ (hj17 _ hf)
        · refine x_aload_n C rfl rfl (dkAt dk_X12_usesRead 31 rfl) 51 rfl ?_
          refine x_iconst C (v := (3 : Int32)) (by decide) (dkAt dk_X12_usesRead 32 rfl) 52 rfl ?_
          obtain ⟨v19, M20, h21, hf⟩ := cl_inv hf
          refine x_cVv C (c_X12_fails hN h21) mw_X12_fails ln_RX12_133 mi_X12_fails (hN.rc (ci := 12) sh108 rc12) (ro_of (by decide) (by decide) (by decide) (by decide)) rfl rfl (Nat.le_of_ble_eq_true rfl) (dkAt dk_X12_usesRead 33 rfl) 55 rfl 0 0 rfl rfl ?_
          exact G.weak (L := [some (.ref (wad Γ 108)), none, none, some (.int (((32 : Int32) + ((3 : Int32) * p0)) + t5))]) ⟨rfl, rfl, trivial⟩ (hj17 _ hf)
  · refine x_if_ne C 31 (dkAt dk_X12_usesRead 17 rfl) 27 rfl (by decide) hf (fun hf => ?_) (fun hf => ?_)
    · refine x_iconst C (v := (0 : Int32)) (by decide) (dkAt dk_X12_usesRead 20 rfl) 32 rfl ?_
      exact G.weak (L := [some (.ref (wad Γ 108))]) ⟨rfl, trivial⟩ (hj22 _ hf)
    · refine x_iload_n C rfl rfl (dkAt dk_X12_usesRead 18 rfl) 28 rfl ?_
      refine x_goto C 32 (dkAt dk_X12_usesRead 19 rfl) (by decide) ?_
      exact G.weak (L := [some (.ref (wad Γ 108))]) ⟨rfl, trivial⟩ (hj22 _ hf)
def f_X12_toRead (Z : Nat) (M : Mem) (p0 : Int32) (p1 : Int32) : Option (Int32 × Mem) :=
  cl (f_X12_stateHere Z M) (fun v1 M2 => bd (gI M2 (108) 19) (fun v3 => jn (fun (t4 : Int32) => bd (gI M2 (108) 19) (fun v5 => jn (fun (t6 : Mem) => cl (f_X12_goesOn Z t6) (fun v7 M8 => cl (f_X12_takes Z M8 (1 : Int32) p1) (fun v9 M10 => cl (f_X12_puts Z M10 (((86 : Int32) + ((6 : Int32) * p0)) + t4) v9) (fun v11 M12 => rdI M12 113 344 ((194 : Int32) + p0) (fun v13 => nzI (6 : Int32) (cl (f_X12_puts Z M12 (((212 : Int32) + ((6 : Int32) * p0)) + (v13 - v13 / (6 : Int32) * (6 : Int32))) v1) (fun v14 M15 => rdI M15 113 344 ((194 : Int32) + p0) (fun v16 => bd (gI M15 (108) 19) (fun v17 => jn (fun (t18 : Int32) => wrI M15 113 344 ((194 : Int32) + p0) (v16 + t18) (fun M19 => bd (gI M19 (108) 19) (fun v20 => (if v20 = 0 then some (v9, M19) else some ((0 : Int32), M19))))) (fun j21 => (if v17 = 0 then j21 (1 : Int32) else j21 (0 : Int32)))))))))))) (fun j26 => (if v5 = 0 then rdI M2 113 344 (((86 : Int32) + ((6 : Int32) * p0)) + t4) (fun v27 => (if v27 ≤ 0 then j26 M2 else cl (f_X12_fails Z M2 (3 : Int32)) (fun v28 M29 => j26 M29))) else j26 M2)))) (fun j31 => (if v3 = 0 then j31 v1 else j31 (0 : Int32)))))
set_option maxRecDepth 100000 in
theorem c_X12_toRead {Γ : WC} (hN : HN Γ) {Z : Nat} {M : Mem} {p0 : Int32} {p1 : Int32} {rM : Int32 × Mem}  (hf : f_X12_toRead Z M p0 p1 = some rM) : Ct Γ yX12_toRead cX12_toRead 6 (some .int) (rmL 4 0 0) [.ref (wad Γ 108), .int p0, .int p1] M (some (.int rM.1)) rM.2 := by
  refine mkN hN.1 (own := RX12) rfl (by decide) (Nat.le_of_ble_eq_true rfl) (fun X C E => ?_)
  change G Γ X M 0 0 [some (.ref (wad Γ 108)), some (.int p0), some (.int p1)] [] 0
  unfold f_X12_toRead at hf
  refine x_aload_n C rfl rfl (dkAt dk_X12_toRead 0 rfl) 1 rfl ?_
  obtain ⟨v1, M2, h32, hf⟩ := cl_inv hf
  refine x_cVi C (c_X12_stateHere hN h32) mw_X12_stateHere ln_RX12_159 mi_X12_stateHere (hN.rc (ci := 12) sh108 rc12) (ro_of (by decide) (by decide) (by decide) (by decide)) rfl rfl (Nat.le_of_ble_eq_true rfl) (dkAt dk_X12_toRead 1 rfl) 4 rfl 0 0 rfl rfl ?_
  refine x_istore_n C (L1 := [some (.ref (wad Γ 108)), some (.int p0), some (.int p1), some (.int v1)]) (dkAt dk_X12_toRead 2 rfl) 5 rfl rfl (by decide) rfl ?_
  refine x_bipush C (v := (86 : Int32)) (by decide) (dkAt dk_X12_toRead 3 rfl) 7 rfl ?_
  refine x_bipush C (v := (6 : Int32)) (by decide) (dkAt dk_X12_toRead 4 rfl) 9 rfl ?_
  refine x_iload_n C rfl rfl (dkAt dk_X12_toRead 5 rfl) 10 rfl ?_
  refine x_imul C (dkAt dk_X12_toRead 6 rfl) 11 rfl ?_
  refine x_iadd C (dkAt dk_X12_toRead 7 rfl) 12 rfl ?_
  refine x_aload_n C rfl rfl (dkAt dk_X12_toRead 8 rfl) 13 rfl ?_
  refine x_getI C lk_RX12_107 (hN.sh sh108) (dkAt dk_X12_toRead 9 rfl) 16 rfl hf (fun v3 hf => ?_)
  refine x_join hf (fun t4 => G Γ X M2 0 0 [some (.ref (wad Γ 108)), some (.int p0), some (.int p1), some (.int v1)] [.int t4, .int ((86 : Int32) + ((6 : Int32) * p0))] 24) (fun t4 hf => ?_) (fun j31 hj31 hf => ?_)
  · refine x_iadd C (dkAt dk_X12_toRead 14 rfl) 25 rfl ?_
    refine x_istore C (L1 := [some (.ref (wad Γ 108)), some (.int p0), some (.int p1), some (.int v1), some (.int (((86 : Int32) + ((6 : Int32) * p0)) + t4))]) (dkAt dk_X12_toRead 15 rfl) 27 rfl (by decide) rfl ?_
    refine x_aload_n C rfl rfl (dkAt dk_X12_toRead 16 rfl) 28 rfl ?_
    refine x_getI C lk_RX12_107 (hN.sh sh108) (dkAt dk_X12_toRead 17 rfl) 31 rfl hf (fun v5 hf => ?_)
    refine x_join hf (fun t6 => G Γ X t6 0 0 [some (.ref (wad Γ 108)), some (.int p0), some (.int p1), some (.int v1), some (.int (((86 : Int32) + ((6 : Int32) * p0)) + t4))] [] 49) (fun t6 hf => ?_) (fun j26 hj26 hf => ?_)
    · refine x_aload_n C rfl rfl (dkAt dk_X12_toRead 27 rfl) 50 rfl ?_
      obtain ⟨v7, M8, h25, hf⟩ := cl_inv hf
      refine x_cVv C (c_X12_goesOn hN h25) mw_X12_goesOn ln_RX12_145 mi_X12_goesOn (hN.rc (ci := 12) sh108 rc12) (ro_of (by decide) (by decide) (by decide) (by decide)) rfl rfl (Nat.le_of_ble_eq_true rfl) (dkAt dk_X12_toRead 28 rfl) 53 rfl 0 0 rfl rfl ?_
      refine x_aload_n C rfl rfl (dkAt dk_X12_toRead 29 rfl) 54 rfl ?_
      refine x_iconst C (v := (1 : Int32)) (by decide) (dkAt dk_X12_toRead 30 rfl) 55 rfl ?_
      refine x_iload_n C rfl rfl (dkAt dk_X12_toRead 31 rfl) 56 rfl ?_
      obtain ⟨v9, M10, h24, hf⟩ := cl_inv hf
      refine x_cVi C (c_X12_takes hN h24) mw_X12_takes ln_RX12_152 mi_X12_takes (hN.rc (ci := 12) sh108 rc12) (ro_of (by decide) (by decide) (by decide) (by decide)) rfl rfl (Nat.le_of_ble_eq_true rfl) (dkAt dk_X12_toRead 32 rfl) 59 rfl 0 0 rfl rfl ?_
      refine x_istore C (L1 := [some (.ref (wad Γ 108)), some (.int p0), some (.int p1), some (.int v1), some (.int (((86 : Int32) + ((6 : Int32) * p0)) + t4)), some (.int v9)]) (dkAt dk_X12_toRead 33 rfl) 61 rfl (by decide) rfl ?_
      refine x_aload_n C rfl rfl (dkAt dk_X12_toRead 34 rfl) 62 rfl ?_
      refine x_iload C rfl (dkAt dk_X12_toRead 35 rfl) 64 rfl ?_
      refine x_iload C rfl (dkAt dk_X12_toRead 36 rfl) 66 rfl ?_
      obtain ⟨v11, M12, h23, hf⟩ := cl_inv hf
      refine x_cVv C (c_X12_puts hN h23) mw_X12_puts ln_RX12_155 mi_X12_puts (hN.rc (ci := 12) sh108 rc12) (ro_of (by decide) (by decide) (by decide) (by decide)) rfl rfl (Nat.le_of_ble_eq_true rfl) (dkAt dk_X12_toRead 37 rfl) 69 rfl 0 0 rfl rfl ?_
      refine x_aload_n C rfl rfl (dkAt dk_X12_toRead 38 rfl) 70 rfl ?_
      refine x_sipush C (v := (212 : Int32)) (by decide) (dkAt dk_X12_toRead 39 rfl) 73 rfl ?_
      refine x_bipush C (v := (6 : Int32)) (by decide) (dkAt dk_X12_toRead 40 rfl) 75 rfl ?_
      refine x_iload_n C rfl rfl (dkAt dk_X12_toRead 41 rfl) 76 rfl ?_
      refine x_imul C (dkAt dk_X12_toRead 42 rfl) 77 rfl ?_
      refine x_iadd C (dkAt dk_X12_toRead 43 rfl) 78 rfl ?_
      refine x_aload_n C rfl rfl (dkAt dk_X12_toRead 44 rfl) 79 rfl ?_
      refine x_getS C lk_RX12_23 (hN.sh sh108) (hN.sr sr108_7) (dkAt dk_X12_toRead 45 rfl) 82 rfl ?_
      refine x_sipush C (v := (194 : Int32)) (by decide) (dkAt dk_X12_toRead 46 rfl) 85 rfl ?_
      refine x_iload_n C rfl rfl (dkAt dk_X12_toRead 47 rfl) 86 rfl ?_
      refine x_iadd C (dkAt dk_X12_toRead 48 rfl) 87 rfl ?_
      refine x_iald C (hN.sh sh113) (dkAt dk_X12_toRead 49 rfl) 88 rfl hf (fun v13 hf => ?_)
      refine x_bipush C (v := (6 : Int32)) (by decide) (dkAt dk_X12_toRead 50 rfl) 90 rfl ?_
      refine x_irem C (dkAt dk_X12_toRead 51 rfl) 91 rfl hf (fun hf => ?_)
      refine x_iadd C (dkAt dk_X12_toRead 52 rfl) 92 rfl ?_
      refine x_iload_n C rfl rfl (dkAt dk_X12_toRead 53 rfl) 93 rfl ?_
      obtain ⟨v14, M15, h22, hf⟩ := cl_inv hf
      refine x_cVv C (c_X12_puts hN h22) mw_X12_puts ln_RX12_155 mi_X12_puts (hN.rc (ci := 12) sh108 rc12) (ro_of (by decide) (by decide) (by decide) (by decide)) rfl rfl (Nat.le_of_ble_eq_true rfl) (dkAt dk_X12_toRead 54 rfl) 96 rfl 0 0 rfl rfl ?_
      refine x_aload_n C rfl rfl (dkAt dk_X12_toRead 55 rfl) 97 rfl ?_
      refine x_getS C lk_RX12_23 (hN.sh sh108) (hN.sr sr108_7) (dkAt dk_X12_toRead 56 rfl) 100 rfl ?_
      refine x_sipush C (v := (194 : Int32)) (by decide) (dkAt dk_X12_toRead 57 rfl) 103 rfl ?_
      refine x_iload_n C rfl rfl (dkAt dk_X12_toRead 58 rfl) 104 rfl ?_
      refine x_iadd C (dkAt dk_X12_toRead 59 rfl) 105 rfl ?_
      refine x_dup2 C rfl rfl (dkAt dk_X12_toRead 60 rfl) 106 rfl ?_
      refine x_iald C (hN.sh sh113) (dkAt dk_X12_toRead 61 rfl) 107 rfl hf (fun v16 hf => ?_)
      refine x_aload_n C rfl rfl (dkAt dk_X12_toRead 62 rfl) 108 rfl ?_
      refine x_getI C lk_RX12_107 (hN.sh sh108) (dkAt dk_X12_toRead 63 rfl) 111 rfl hf (fun v17 hf => ?_)
      refine x_join hf (fun t18 => G Γ X M15 0 0 [some (.ref (wad Γ 108)), none, none, none, none, some (.int v9)] [.int t18, .int v16, .int ((194 : Int32) + p0), .ref (wad Γ 113)] 119) (fun t18 hf => ?_) (fun j21 hj21 hf => ?_)
      · refine x_iadd C (dkAt dk_X12_toRead 68 rfl) 120 rfl ?_
        refine x_iast C (hN.sh sh113) (dkAt dk_X12_toRead 69 rfl) 121 rfl hf (fun M19 hf => ?_)
        refine x_aload_n C rfl rfl (dkAt dk_X12_toRead 70 rfl) 122 rfl ?_
        refine x_getI C lk_RX12_107 (hN.sh sh108) (dkAt dk_X12_toRead 71 rfl) 125 rfl hf (fun v20 hf => ?_)
        refine x_if_ne C 133 (dkAt dk_X12_toRead 72 rfl) 128 rfl (by decide) hf (fun hf => ?_) (fun hf => ?_)
        · refine x_iconst C (v := (0 : Int32)) (by decide) (dkAt dk_X12_toRead 75 rfl) 134 rfl ?_
          exact x_iret C E hf (by decide) (by decide) (dkAt dk_X12_toRead 76 rfl)
        · refine x_iload C rfl (dkAt dk_X12_toRead 73 rfl) 130 rfl ?_
          refine x_goto C 134 (dkAt dk_X12_toRead 74 rfl) (by decide) ?_
          exact x_iret C E hf (by decide) (by decide) (dkAt dk_X12_toRead 76 rfl)
      · refine x_if_ne C 118 (dkAt dk_X12_toRead 64 rfl) 114 rfl (by decide) hf (fun hf => ?_) (fun hf => ?_)
        · refine x_iconst C (v := (0 : Int32)) (by decide) (dkAt dk_X12_toRead 67 rfl) 119 rfl ?_
          exact G.weak (L := [some (.ref (wad Γ 108)), none, none, none, none, some (.int v9)]) ⟨rfl, rfl, trivial⟩ (hj21 _ hf)
        · refine x_iconst C (v := (1 : Int32)) (by decide) (dkAt dk_X12_toRead 65 rfl) 115 rfl ?_
          refine x_goto C 119 (dkAt dk_X12_toRead 66 rfl) (by decide) ?_
          exact G.weak (L := [some (.ref (wad Γ 108)), none, none, none, none, some (.int v9)]) ⟨rfl, rfl, trivial⟩ (hj21 _ hf)
    · refine x_if_ne C 49 (dkAt dk_X12_toRead 18 rfl) 34 rfl (by decide) hf (fun hf => ?_) (fun hf => ?_)
      · exact G.weak (L := [some (.ref (wad Γ 108)), some (.int p0), some (.int p1), some (.int v1), some (.int (((86 : Int32) + ((6 : Int32) * p0)) + t4))]) ⟨rfl, rfl, rfl, rfl, rfl, trivial⟩ (hj26 _ hf)
      · refine x_aload_n C rfl rfl (dkAt dk_X12_toRead 19 rfl) 35 rfl ?_
        refine x_getS C lk_RX12_23 (hN.sh sh108) (hN.sr sr108_7) (dkAt dk_X12_toRead 20 rfl) 38 rfl ?_
        refine x_iload C rfl (dkAt dk_X12_toRead 21 rfl) 40 rfl ?_
        refine x_iald C (hN.sh sh113) (dkAt dk_X12_toRead 22 rfl) 41 rfl hf (fun v27 hf => ?_)
        refine x_if_le C 49 (dkAt dk_X12_toRead 23 rfl) 44 rfl (by decide) hf (fun hf => ?_) (fun hf => ?_)
        · exact G.weak (L := [some (.ref (wad Γ 108)), some (.int p0), some (.int p1), some (.int v1), some (.int (((86 : Int32) + ((6 : Int32) * p0)) + t4))]) ⟨rfl, rfl, rfl, rfl, rfl, trivial⟩ (hj26 _ hf)
        · refine x_aload_n C rfl rfl (dkAt dk_X12_toRead 24 rfl) 45 rfl ?_
          refine x_iconst C (v := (3 : Int32)) (by decide) (dkAt dk_X12_toRead 25 rfl) 46 rfl ?_
          obtain ⟨v28, M29, h30, hf⟩ := cl_inv hf
          refine x_cVv C (c_X12_fails hN h30) mw_X12_fails ln_RX12_133 mi_X12_fails (hN.rc (ci := 12) sh108 rc12) (ro_of (by decide) (by decide) (by decide) (by decide)) rfl rfl (Nat.le_of_ble_eq_true rfl) (dkAt dk_X12_toRead 26 rfl) 49 rfl 0 0 rfl rfl ?_
          exact G.weak (L := [some (.ref (wad Γ 108)), some (.int p0), some (.int p1), some (.int v1), some (.int (((86 : Int32) + ((6 : Int32) * p0)) + t4))]) ⟨rfl, rfl, rfl, rfl, rfl, trivial⟩ (hj26 _ hf)
  · refine x_if_ne C 23 (dkAt dk_X12_toRead 10 rfl) 19 rfl (by decide) hf (fun hf => ?_) (fun hf => ?_)
    · refine x_iconst C (v := (0 : Int32)) (by decide) (dkAt dk_X12_toRead 13 rfl) 24 rfl ?_
      exact G.weak (L := [some (.ref (wad Γ 108)), some (.int p0), some (.int p1), some (.int v1)]) ⟨rfl, rfl, rfl, rfl, trivial⟩ (hj31 _ hf)
    · refine x_iload_n C rfl rfl (dkAt dk_X12_toRead 11 rfl) 20 rfl ?_
      refine x_goto C 24 (dkAt dk_X12_toRead 12 rfl) (by decide) ?_
      exact G.weak (L := [some (.ref (wad Γ 108)), some (.int p0), some (.int p1), some (.int v1)]) ⟨rfl, rfl, rfl, rfl, trivial⟩ (hj31 _ hf)
def f_X12_endsAt (Z : Nat) (M : Mem) (p0 : Int32) : Option (Unit × Mem) :=
  bd (gI M (108) 15) (fun v1 => jn (fun (t2 : Unit) => (if p0 = 0 then cl (f_X12_fails Z M (5 : Int32)) (fun v3 M4 => some ((), M4)) else some ((), M))) (fun j6 => (if v1 = (3 : Int32) then j6 () else bd (gI M (108) 15) (fun v7 => (if v7 = 0 then j6 () else cl (f_X12_fails Z M (1 : Int32)) (fun v8 M9 => some ((), M9)))))))
set_option maxRecDepth 100000 in
theorem c_X12_endsAt {Γ : WC} (hN : HN Γ) {Z : Nat} {M : Mem} {p0 : Int32} {rM : Unit × Mem}  (hf : f_X12_endsAt Z M p0 = some rM) : Ct Γ yX12_endsAt cX12_endsAt 2 none (rmL 1 0 0) [.ref (wad Γ 108), .int p0] M none rM.2 := by
  refine mkN hN.1 (own := RX12) rfl (by decide) (Nat.le_of_ble_eq_true rfl) (fun X C E => ?_)
  change G Γ X M 0 0 [some (.ref (wad Γ 108)), some (.int p0)] [] 0
  unfold f_X12_endsAt at hf
  refine x_aload_n C rfl rfl (dkAt dk_X12_endsAt 0 rfl) 1 rfl ?_
  refine x_getI C lk_RX12_91 (hN.sh sh108) (dkAt dk_X12_endsAt 1 rfl) 4 rfl hf (fun v1 hf => ?_)
  refine x_iconst C (v := (3 : Int32)) (by decide) (dkAt dk_X12_endsAt 2 rfl) 5 rfl ?_
  refine x_join hf (fun t2 => G Γ X M 0 0 [some (.ref (wad Γ 108)), some (.int p0)] [] 23) (fun t2 hf => ?_) (fun j6 hj6 hf => ?_)
  · refine x_iload_n C rfl rfl (dkAt dk_X12_endsAt 11 rfl) 24 rfl ?_
    refine x_if_ne C 32 (dkAt dk_X12_endsAt 12 rfl) 27 rfl (by decide) hf (fun hf => ?_) (fun hf => ?_)
    · exact x_vret C E hf (by decide) (by decide) (dkAt dk_X12_endsAt 16 rfl)
    · refine x_aload_n C rfl rfl (dkAt dk_X12_endsAt 13 rfl) 28 rfl ?_
      refine x_iconst C (v := (5 : Int32)) (by decide) (dkAt dk_X12_endsAt 14 rfl) 29 rfl ?_
      obtain ⟨v3, M4, h5, hf⟩ := cl_inv hf
      refine x_cVv C (c_X12_fails hN h5) mw_X12_fails ln_RX12_133 mi_X12_fails (hN.rc (ci := 12) sh108 rc12) (ro_of (by decide) (by decide) (by decide) (by decide)) rfl rfl (Nat.le_of_ble_eq_true rfl) (dkAt dk_X12_endsAt 15 rfl) 32 rfl 0 0 rfl rfl ?_
      exact x_vret C E hf (by decide) (by decide) (dkAt dk_X12_endsAt 16 rfl)
  · refine x_icmp_eq C 23 (dkAt dk_X12_endsAt 3 rfl) 8 rfl (by decide) hf (fun hf => ?_) (fun hf => ?_)
    · exact G.weak (L := [some (.ref (wad Γ 108)), some (.int p0)]) ⟨rfl, rfl, trivial⟩ (hj6 _ hf)
    · refine x_aload_n C rfl rfl (dkAt dk_X12_endsAt 4 rfl) 9 rfl ?_
      refine x_getI C lk_RX12_91 (hN.sh sh108) (dkAt dk_X12_endsAt 5 rfl) 12 rfl hf (fun v7 hf => ?_)
      refine x_if_eq C 23 (dkAt dk_X12_endsAt 6 rfl) 15 rfl (by decide) hf (fun hf => ?_) (fun hf => ?_)
      · exact G.weak (L := [some (.ref (wad Γ 108)), some (.int p0)]) ⟨rfl, rfl, trivial⟩ (hj6 _ hf)
      · refine x_aload_n C rfl rfl (dkAt dk_X12_endsAt 7 rfl) 16 rfl ?_
        refine x_iconst C (v := (1 : Int32)) (by decide) (dkAt dk_X12_endsAt 8 rfl) 17 rfl ?_
        obtain ⟨v8, M9, h10, hf⟩ := cl_inv hf
        refine x_cVv C (c_X12_fails hN h10) mw_X12_fails ln_RX12_133 mi_X12_fails (hN.rc (ci := 12) sh108 rc12) (ro_of (by decide) (by decide) (by decide) (by decide)) rfl rfl (Nat.le_of_ble_eq_true rfl) (dkAt dk_X12_endsAt 9 rfl) 20 rfl 0 0 rfl rfl ?_
        refine x_goto C 32 (dkAt dk_X12_endsAt 10 rfl) (by decide) ?_
        exact x_vret C E hf (by decide) (by decide) (dkAt dk_X12_endsAt 16 rfl)
def f_X12_actLine_L122 (Z : Nat) (v3 : Int32) (t10 : Int32) (k : Mem → Option (Unit × Mem)) : Nat → Mem → Option (Unit × Mem)
  | 0, _ => none
  | n + 1, M19 => cl (f_X12_passes Z M19 6) (fun v20 M21 => (if v20 = 0 then k M21 else cl (f_X12_usesRead Z M21 (((3 : Int32) * v3) + t10)) (fun v22 M23 => f_X12_actLine_L122 Z v3 t10 k n M23)))
def f_X12_actLine_L142 (Z : Nat) (v3 : Int32) (t10 : Int32) (k : Int32 → Mem → Option (Unit × Mem)) : Nat → Int32 → Mem → Option (Unit × Mem)
  | 0, _, _ => none
  | n + 1, x27, M28 => cl (f_X12_passes Z M28 7) (fun v29 M30 => (if v29 = 0 then k x27 M30 else cl (f_X12_toRead Z M30 (((3 : Int32) * v3) + t10) ((100 : Int32) - x27)) (fun v31 M32 => f_X12_actLine_L142 Z v3 t10 k n (x27 + v31) M32)))
def f_X12_actLine (Z : Nat) (M : Mem)  : Option (Unit × Mem) :=
  cl (f_X12_goesOn Z M) (fun v1 M2 => cl (f_X12_stateHere Z M2) (fun v3 M4 => bd (gI M4 (108) 19) (fun v5 => jn (fun (t6 : Mem) => cl (f_X12_goesOn Z t6) (fun v7 M8 => bd (gI M8 (108) 19) (fun v9 => jn (fun (t10 : Int32) => bd (gI M8 (108) 19) (fun v11 => jn (fun (t12 : Int32) => jn (fun (t13 : Mem) => cl (f_X12_takes Z t13 (0 : Int32) (999 : Int32)) (fun v14 M15 => jn (fun (t16 : Int32) => cl (f_X12_puts Z M15 ((14 : Int32) + (((3 : Int32) * v3) + t10)) t16) (fun v17 M18 => f_X12_actLine_L122 Z v3 t10 (fun (M26 : Mem) => f_X12_actLine_L142 Z v3 t10 (fun (y35 : Int32) (M36 : Mem) => jn (fun (t37 : Int32) => cl (f_X12_endsAt Z M36 t37) (fun v38 M39 => rdI M39 113 344 ((8 : Int32) + v3) (fun v40 => bd (gI M39 (108) 19) (fun v41 => (if v41 = 0 then wrI M39 113 344 ((8 : Int32) + v3) (v40 + (1 : Int32)) (fun M43 => some ((), M43)) else wrI M39 113 344 ((8 : Int32) + v3) (v40 + (0 : Int32)) (fun M42 => some ((), M42))))))) (fun j45 => (if y35 = (100 : Int32) then j45 (1 : Int32) else j45 (0 : Int32)))) Z (0 : Int32) M26) Z M18)) (fun j47 => (if t12 = 0 then j47 v14 else j47 (-v14))))) (fun j49 => (if t12 = 0 then j49 M8 else cl (f_X12_token Z M8) (fun v50 M51 => j49 M51)))) (fun j53 => jn (fun (t54 : Unit) => j53 (0 : Int32)) (fun j55 => (if v11 = 0 then bd (gI M8 (108) 15) (fun v56 => (if v56 = (4 : Int32) then j53 (1 : Int32) else j55 ())) else j55 ()))))) (fun j57 => (if v9 = 0 then rdI M8 113 344 ((8 : Int32) + v3) (fun v58 => j57 v58) else j57 (0 : Int32)))))) (fun j60 => (if v5 = 0 then rdI M4 113 344 ((8 : Int32) + v3) (fun v61 => (if v61 = (3 : Int32) then cl (f_X12_fails Z M4 (4 : Int32)) (fun v62 M63 => j60 M63) else j60 M4)) else j60 M4)))))
set_option maxRecDepth 100000 in
theorem l_X12_actLine_L122 {Γ : WC} {X : MX} (hN : HN Γ) (C : CX Γ X cX12_actLine 6 RX12 none (rmL 8 0 0)) {rM : Unit × Mem} (E : EndN Γ X none rM.2 0 0) {Z : Nat} {v3 : Int32} {t10 : Int32} {k : Mem → Option (Unit × Mem)} (hk : ∀  (Mx : Mem), k Mx = some rM → G Γ X Mx 0 0 [some (.ref (wad Γ 108)), some (.int v3), some (.int (((3 : Int32) * v3) + t10))] [] 139) : ∀ (n : Nat) (M19 : Mem), f_X12_actLine_L122 Z v3 t10 k n M19 = some rM → G Γ X M19 0 0 [some (.ref (wad Γ 108)), some (.int v3), some (.int (((3 : Int32) * v3) + t10))] [] 122 := by
  intro n
  induction n with
  | zero =>
    intro M19 hf
    have hf0 : (none : Option _) = some rM := hf
    cases hf0
  | succ n ih =>
    intro M19 hf
    rw [f_X12_actLine_L122] at hf
    refine x_aload_n C rfl rfl (dkAt dk_X12_actLine 68 rfl) 123 rfl ?_
    refine x_ldcS C (hN.st (i := 32) rfl) (dkAt dk_X12_actLine 69 rfl) 125 rfl ?_
    obtain ⟨v20, M21, h25, hf⟩ := cl_inv hf
    refine x_cVi C (c_X12_passes hN (by decide) h25) mw_X12_passes ln_RX12_130 mi_X12_passes (hN.rc (ci := 12) sh108 rc12) (ro_of (by decide) (by decide) (by decide) (by decide)) rfl rfl (Nat.le_of_ble_eq_true rfl) (dkAt dk_X12_actLine 70 rfl) 128 rfl 0 0 rfl rfl ?_
    refine x_if_eq C 139 (dkAt dk_X12_actLine 71 rfl) 131 rfl (by decide) hf (fun hf => ?_) (fun hf => ?_)
    · exact G.weak (L := [some (.ref (wad Γ 108)), some (.int v3), some (.int (((3 : Int32) * v3) + t10))]) ⟨rfl, rfl, rfl, trivial⟩ (hk _ hf)
    · refine x_aload_n C rfl rfl (dkAt dk_X12_actLine 72 rfl) 132 rfl ?_
      refine x_iload_n C rfl rfl (dkAt dk_X12_actLine 73 rfl) 133 rfl ?_
      obtain ⟨v22, M23, h24, hf⟩ := cl_inv hf
      refine x_cVv C (c_X12_usesRead hN h24) mw_X12_usesRead ln_RX12_164 mi_X12_usesRead (hN.rc (ci := 12) sh108 rc12) (ro_of (by decide) (by decide) (by decide) (by decide)) rfl rfl (Nat.le_of_ble_eq_true rfl) (dkAt dk_X12_actLine 74 rfl) 136 rfl 0 0 rfl rfl ?_
      refine x_goto C 122 (dkAt dk_X12_actLine 75 rfl) (by decide) ?_
      exact G.weak (L := [some (.ref (wad Γ 108)), some (.int v3), some (.int (((3 : Int32) * v3) + t10))]) ⟨rfl, rfl, rfl, trivial⟩ (ih _ hf)
set_option maxRecDepth 100000 in
theorem l_X12_actLine_L142 {Γ : WC} {X : MX} (hN : HN Γ) (C : CX Γ X cX12_actLine 6 RX12 none (rmL 8 0 0)) {rM : Unit × Mem} (E : EndN Γ X none rM.2 0 0) {Z : Nat} {v3 : Int32} {t10 : Int32} {k : Int32 → Mem → Option (Unit × Mem)} (hk : ∀ (a5 : Int32) (Mx : Mem), k a5 Mx = some rM → G Γ X Mx 0 0 [some (.ref (wad Γ 108)), some (.int v3), none, none, none, some (.int a5)] [] 169) : ∀ (n : Nat) (x27 : Int32) (M28 : Mem), f_X12_actLine_L142 Z v3 t10 k n x27 M28 = some rM → G Γ X M28 0 0 [some (.ref (wad Γ 108)), some (.int v3), some (.int (((3 : Int32) * v3) + t10)), none, none, some (.int x27)] [] 142 := by
  intro n
  induction n with
  | zero =>
    intro x27 M28 hf
    have hf0 : (none : Option _) = some rM := hf
    cases hf0
  | succ n ih =>
    intro x27 M28 hf
    rw [f_X12_actLine_L142] at hf
    refine x_aload_n C rfl rfl (dkAt dk_X12_actLine 78 rfl) 143 rfl ?_
    refine x_ldcS C (hN.st (i := 33) rfl) (dkAt dk_X12_actLine 79 rfl) 145 rfl ?_
    obtain ⟨v29, M30, h34, hf⟩ := cl_inv hf
    refine x_cVi C (c_X12_passes hN (by decide) h34) mw_X12_passes ln_RX12_130 mi_X12_passes (hN.rc (ci := 12) sh108 rc12) (ro_of (by decide) (by decide) (by decide) (by decide)) rfl rfl (Nat.le_of_ble_eq_true rfl) (dkAt dk_X12_actLine 80 rfl) 148 rfl 0 0 rfl rfl ?_
    refine x_if_eq C 169 (dkAt dk_X12_actLine 81 rfl) 151 rfl (by decide) hf (fun hf => ?_) (fun hf => ?_)
    · exact G.weak (L := [some (.ref (wad Γ 108)), some (.int v3), none, none, none, some (.int x27)]) ⟨rfl, rfl, rfl, trivial⟩ (hk _ _ hf)
    · refine x_iload C rfl (dkAt dk_X12_actLine 82 rfl) 153 rfl ?_
      refine x_aload_n C rfl rfl (dkAt dk_X12_actLine 83 rfl) 154 rfl ?_
      refine x_iload_n C rfl rfl (dkAt dk_X12_actLine 84 rfl) 155 rfl ?_
      refine x_bipush C (v := (100 : Int32)) (by decide) (dkAt dk_X12_actLine 85 rfl) 157 rfl ?_
      refine x_iload C rfl (dkAt dk_X12_actLine 86 rfl) 159 rfl ?_
      refine x_isub C (dkAt dk_X12_actLine 87 rfl) 160 rfl ?_
      obtain ⟨v31, M32, h33, hf⟩ := cl_inv hf
      refine x_cVi C (c_X12_toRead hN h33) mw_X12_toRead ln_RX12_169 mi_X12_toRead (hN.rc (ci := 12) sh108 rc12) (ro_of (by decide) (by decide) (by decide) (by decide)) rfl rfl (Nat.le_of_ble_eq_true rfl) (dkAt dk_X12_actLine 88 rfl) 163 rfl 0 0 rfl rfl ?_
      refine x_iadd C (dkAt dk_X12_actLine 89 rfl) 164 rfl ?_
      refine x_istore C (L1 := [some (.ref (wad Γ 108)), some (.int v3), some (.int (((3 : Int32) * v3) + t10)), none, none, some (.int (x27 + v31))]) (dkAt dk_X12_actLine 90 rfl) 166 rfl (by decide) rfl ?_
      refine x_goto C 142 (dkAt dk_X12_actLine 91 rfl) (by decide) ?_
      exact G.weak (L := [some (.ref (wad Γ 108)), some (.int v3), some (.int (((3 : Int32) * v3) + t10)), none, none, some (.int (x27 + v31))]) ⟨rfl, rfl, rfl, rfl, trivial⟩ (ih _ _ hf)
set_option maxRecDepth 100000 in
theorem c_X12_actLine {Γ : WC} (hN : HN Γ) {Z : Nat} {M : Mem}  {rM : Unit × Mem}  (hf : f_X12_actLine Z M  = some rM) : Ct Γ yX12_actLine cX12_actLine 6 none (rmL 8 0 0) [.ref (wad Γ 108)] M none rM.2 := by
  refine mkN hN.1 (own := RX12) rfl (by decide) (Nat.le_of_ble_eq_true rfl) (fun X C E => ?_)
  change G Γ X M 0 0 [some (.ref (wad Γ 108))] [] 0
  unfold f_X12_actLine at hf
  refine x_aload_n C rfl rfl (dkAt dk_X12_actLine 0 rfl) 1 rfl ?_
  obtain ⟨v1, M2, h66, hf⟩ := cl_inv hf
  refine x_cVv C (c_X12_goesOn hN h66) mw_X12_goesOn ln_RX12_145 mi_X12_goesOn (hN.rc (ci := 12) sh108 rc12) (ro_of (by decide) (by decide) (by decide) (by decide)) rfl rfl (Nat.le_of_ble_eq_true rfl) (dkAt dk_X12_actLine 1 rfl) 4 rfl 0 0 rfl rfl ?_
  refine x_aload_n C rfl rfl (dkAt dk_X12_actLine 2 rfl) 5 rfl ?_
  obtain ⟨v3, M4, h65, hf⟩ := cl_inv hf
  refine x_cVi C (c_X12_stateHere hN h65) mw_X12_stateHere ln_RX12_159 mi_X12_stateHere (hN.rc (ci := 12) sh108 rc12) (ro_of (by decide) (by decide) (by decide) (by decide)) rfl rfl (Nat.le_of_ble_eq_true rfl) (dkAt dk_X12_actLine 3 rfl) 8 rfl 0 0 rfl rfl ?_
  refine x_istore_n C (L1 := [some (.ref (wad Γ 108)), some (.int v3)]) (dkAt dk_X12_actLine 4 rfl) 9 rfl rfl (by decide) rfl ?_
  refine x_aload_n C rfl rfl (dkAt dk_X12_actLine 5 rfl) 10 rfl ?_
  refine x_getI C lk_RX12_107 (hN.sh sh108) (dkAt dk_X12_actLine 6 rfl) 13 rfl hf (fun v5 hf => ?_)
  refine x_join hf (fun t6 => G Γ X t6 0 0 [some (.ref (wad Γ 108)), some (.int v3)] [] 34) (fun t6 hf => ?_) (fun j60 hj60 hf => ?_)
  · refine x_aload_n C rfl rfl (dkAt dk_X12_actLine 19 rfl) 35 rfl ?_
    obtain ⟨v7, M8, h59, hf⟩ := cl_inv hf
    refine x_cVv C (c_X12_goesOn hN h59) mw_X12_goesOn ln_RX12_145 mi_X12_goesOn (hN.rc (ci := 12) sh108 rc12) (ro_of (by decide) (by decide) (by decide) (by decide)) rfl rfl (Nat.le_of_ble_eq_true rfl) (dkAt dk_X12_actLine 20 rfl) 38 rfl 0 0 rfl rfl ?_
    refine x_iconst C (v := (3 : Int32)) (by decide) (dkAt dk_X12_actLine 21 rfl) 39 rfl ?_
    refine x_iload_n C rfl rfl (dkAt dk_X12_actLine 22 rfl) 40 rfl ?_
    refine x_imul C (dkAt dk_X12_actLine 23 rfl) 41 rfl ?_
    refine x_aload_n C rfl rfl (dkAt dk_X12_actLine 24 rfl) 42 rfl ?_
    refine x_getI C lk_RX12_107 (hN.sh sh108) (dkAt dk_X12_actLine 25 rfl) 45 rfl hf (fun v9 hf => ?_)
    refine x_join hf (fun t10 => G Γ X M8 0 0 [some (.ref (wad Γ 108)), some (.int v3)] [.int t10, .int ((3 : Int32) * v3)] 61) (fun t10 hf => ?_) (fun j57 hj57 hf => ?_)
    · refine x_iadd C (dkAt dk_X12_actLine 35 rfl) 62 rfl ?_
      refine x_istore_n C (L1 := [some (.ref (wad Γ 108)), some (.int v3), some (.int (((3 : Int32) * v3) + t10))]) (dkAt dk_X12_actLine 36 rfl) 63 rfl rfl (by decide) rfl ?_
      refine x_aload_n C rfl rfl (dkAt dk_X12_actLine 37 rfl) 64 rfl ?_
      refine x_getI C lk_RX12_107 (hN.sh sh108) (dkAt dk_X12_actLine 38 rfl) 67 rfl hf (fun v11 hf => ?_)
      refine x_join hf (fun t12 => G Γ X M8 0 0 [some (.ref (wad Γ 108)), some (.int v3), some (.int (((3 : Int32) * v3) + t10))] [.int t12] 83) (fun t12 hf => ?_) (fun j53 hj53 hf => ?_)
      · refine x_istore_n C (L1 := [some (.ref (wad Γ 108)), some (.int v3), some (.int (((3 : Int32) * v3) + t10)), some (.int t12)]) (dkAt dk_X12_actLine 47 rfl) 84 rfl rfl (by decide) rfl ?_
        refine x_iload_n C rfl rfl (dkAt dk_X12_actLine 48 rfl) 85 rfl ?_
        refine x_join hf (fun t13 => G Γ X t13 0 0 [some (.ref (wad Γ 108)), some (.int v3), some (.int (((3 : Int32) * v3) + t10)), some (.int t12)] [] 92) (fun t13 hf => ?_) (fun j49 hj49 hf => ?_)
        · refine x_aload_n C rfl rfl (dkAt dk_X12_actLine 52 rfl) 93 rfl ?_
          refine x_iconst C (v := (0 : Int32)) (by decide) (dkAt dk_X12_actLine 53 rfl) 94 rfl ?_
          refine x_sipush C (v := (999 : Int32)) (by decide) (dkAt dk_X12_actLine 54 rfl) 97 rfl ?_
          obtain ⟨v14, M15, h48, hf⟩ := cl_inv hf
          refine x_cVi C (c_X12_takes hN h48) mw_X12_takes ln_RX12_152 mi_X12_takes (hN.rc (ci := 12) sh108 rc12) (ro_of (by decide) (by decide) (by decide) (by decide)) rfl rfl (Nat.le_of_ble_eq_true rfl) (dkAt dk_X12_actLine 55 rfl) 100 rfl 0 0 rfl rfl ?_
          refine x_istore C (L1 := [some (.ref (wad Γ 108)), some (.int v3), some (.int (((3 : Int32) * v3) + t10)), some (.int t12), some (.int v14)]) (dkAt dk_X12_actLine 56 rfl) 102 rfl (by decide) rfl ?_
          refine x_aload_n C rfl rfl (dkAt dk_X12_actLine 57 rfl) 103 rfl ?_
          refine x_bipush C (v := (14 : Int32)) (by decide) (dkAt dk_X12_actLine 58 rfl) 105 rfl ?_
          refine x_iload_n C rfl rfl (dkAt dk_X12_actLine 59 rfl) 106 rfl ?_
          refine x_iadd C (dkAt dk_X12_actLine 60 rfl) 107 rfl ?_
          refine x_iload_n C rfl rfl (dkAt dk_X12_actLine 61 rfl) 108 rfl ?_
          refine x_join hf (fun t16 => G Γ X M15 0 0 [some (.ref (wad Γ 108)), some (.int v3), some (.int (((3 : Int32) * v3) + t10))] [.int t16, .int ((14 : Int32) + (((3 : Int32) * v3) + t10)), .ref (wad Γ 108)] 119) (fun t16 hf => ?_) (fun j47 hj47 hf => ?_)
          · obtain ⟨v17, M18, h46, hf⟩ := cl_inv hf
            refine x_cVv C (c_X12_puts hN h46) mw_X12_puts ln_RX12_155 mi_X12_puts (hN.rc (ci := 12) sh108 rc12) (ro_of (by decide) (by decide) (by decide) (by decide)) rfl rfl (Nat.le_of_ble_eq_true rfl) (dkAt dk_X12_actLine 67 rfl) 122 rfl 0 0 rfl rfl ?_
            refine G.weak (L := [some (.ref (wad Γ 108)), some (.int v3), some (.int (((3 : Int32) * v3) + t10))]) ⟨rfl, rfl, rfl, trivial⟩ ?_
            refine l_X12_actLine_L122 hN C E ?_ Z _ hf
            intro M26 hf
            refine x_iconst C (v := (0 : Int32)) (by decide) (dkAt dk_X12_actLine 76 rfl) 140 rfl ?_
            refine x_istore C (L1 := [some (.ref (wad Γ 108)), some (.int v3), some (.int (((3 : Int32) * v3) + t10)), none, none, some (.int (0 : Int32))]) (dkAt dk_X12_actLine 77 rfl) 142 rfl (by decide) rfl ?_
            refine G.weak (L := [some (.ref (wad Γ 108)), some (.int v3), some (.int (((3 : Int32) * v3) + t10)), none, none, some (.int (0 : Int32))]) ⟨rfl, rfl, rfl, rfl, trivial⟩ ?_
            refine l_X12_actLine_L142 hN C E ?_ Z _ _ hf
            intro y35 M36 hf
            refine x_aload_n C rfl rfl (dkAt dk_X12_actLine 92 rfl) 170 rfl ?_
            refine x_iload C rfl (dkAt dk_X12_actLine 93 rfl) 172 rfl ?_
            refine x_bipush C (v := (100 : Int32)) (by decide) (dkAt dk_X12_actLine 94 rfl) 174 rfl ?_
            refine x_join hf (fun t37 => G Γ X M36 0 0 [some (.ref (wad Γ 108)), some (.int v3)] [.int t37, .ref (wad Γ 108)] 182) (fun t37 hf => ?_) (fun j45 hj45 hf => ?_)
            · obtain ⟨v38, M39, h44, hf⟩ := cl_inv hf
              refine x_cVv C (c_X12_endsAt hN h44) mw_X12_endsAt ln_RX12_172 mi_X12_endsAt (hN.rc (ci := 12) sh108 rc12) (ro_of (by decide) (by decide) (by decide) (by decide)) rfl rfl (Nat.le_of_ble_eq_true rfl) (dkAt dk_X12_actLine 99 rfl) 185 rfl 0 0 rfl rfl ?_
              refine x_aload_n C rfl rfl (dkAt dk_X12_actLine 100 rfl) 186 rfl ?_
              refine x_getS C lk_RX12_23 (hN.sh sh108) (hN.sr sr108_7) (dkAt dk_X12_actLine 101 rfl) 189 rfl ?_
              refine x_bipush C (v := (8 : Int32)) (by decide) (dkAt dk_X12_actLine 102 rfl) 191 rfl ?_
              refine x_iload_n C rfl rfl (dkAt dk_X12_actLine 103 rfl) 192 rfl ?_
              refine x_iadd C (dkAt dk_X12_actLine 104 rfl) 193 rfl ?_
              refine x_dup2 C rfl rfl (dkAt dk_X12_actLine 105 rfl) 194 rfl ?_
              refine x_iald C (hN.sh sh113) (dkAt dk_X12_actLine 106 rfl) 195 rfl hf (fun v40 hf => ?_)
              refine x_aload_n C rfl rfl (dkAt dk_X12_actLine 107 rfl) 196 rfl ?_
              refine x_getI C lk_RX12_107 (hN.sh sh108) (dkAt dk_X12_actLine 108 rfl) 199 rfl hf (fun v41 hf => ?_)
              refine x_if_ne C 206 (dkAt dk_X12_actLine 109 rfl) 202 rfl (by decide) hf (fun hf => ?_) (fun hf => ?_)
              · refine x_iconst C (v := (0 : Int32)) (by decide) (dkAt dk_X12_actLine 112 rfl) 207 rfl ?_
                refine x_iadd C (dkAt dk_X12_actLine 113 rfl) 208 rfl ?_
                refine x_iast C (hN.sh sh113) (dkAt dk_X12_actLine 114 rfl) 209 rfl hf (fun M42 hf => ?_)
                exact x_vret C E hf (by decide) (by decide) (dkAt dk_X12_actLine 115 rfl)
              · refine x_iconst C (v := (1 : Int32)) (by decide) (dkAt dk_X12_actLine 110 rfl) 203 rfl ?_
                refine x_goto C 207 (dkAt dk_X12_actLine 111 rfl) (by decide) ?_
                refine x_iadd C (dkAt dk_X12_actLine 113 rfl) 208 rfl ?_
                refine x_iast C (hN.sh sh113) (dkAt dk_X12_actLine 114 rfl) 209 rfl hf (fun M43 hf => ?_)
                exact x_vret C E hf (by decide) (by decide) (dkAt dk_X12_actLine 115 rfl)
            · refine x_icmp_ne C 181 (dkAt dk_X12_actLine 95 rfl) 177 rfl (by decide) hf (fun hf => ?_) (fun hf => ?_)
              · refine x_iconst C (v := (0 : Int32)) (by decide) (dkAt dk_X12_actLine 98 rfl) 182 rfl ?_
                exact G.weak (L := [some (.ref (wad Γ 108)), some (.int v3)]) ⟨rfl, rfl, trivial⟩ (hj45 _ hf)
              · refine x_iconst C (v := (1 : Int32)) (by decide) (dkAt dk_X12_actLine 96 rfl) 178 rfl ?_
                refine x_goto C 182 (dkAt dk_X12_actLine 97 rfl) (by decide) ?_
                exact G.weak (L := [some (.ref (wad Γ 108)), some (.int v3)]) ⟨rfl, rfl, trivial⟩ (hj45 _ hf)
          · refine x_if_eq C 117 (dkAt dk_X12_actLine 62 rfl) 111 rfl (by decide) hf (fun hf => ?_) (fun hf => ?_)
            · refine x_iload C rfl (dkAt dk_X12_actLine 66 rfl) 119 rfl ?_
              exact G.weak (L := [some (.ref (wad Γ 108)), some (.int v3), some (.int (((3 : Int32) * v3) + t10))]) ⟨rfl, rfl, rfl, trivial⟩ (hj47 _ hf)
            · refine x_iload C rfl (dkAt dk_X12_actLine 63 rfl) 113 rfl ?_
              refine x_ineg C (dkAt dk_X12_actLine 64 rfl) 114 rfl ?_
              refine x_goto C 119 (dkAt dk_X12_actLine 65 rfl) (by decide) ?_
              exact G.weak (L := [some (.ref (wad Γ 108)), some (.int v3), some (.int (((3 : Int32) * v3) + t10))]) ⟨rfl, rfl, rfl, trivial⟩ (hj47 _ hf)
        · refine x_if_eq C 92 (dkAt dk_X12_actLine 49 rfl) 88 rfl (by decide) hf (fun hf => ?_) (fun hf => ?_)
          · exact G.weak (L := [some (.ref (wad Γ 108)), some (.int v3), some (.int (((3 : Int32) * v3) + t10)), some (.int t12)]) ⟨rfl, rfl, rfl, rfl, trivial⟩ (hj49 _ hf)
          · refine x_aload_n C rfl rfl (dkAt dk_X12_actLine 50 rfl) 89 rfl ?_
            obtain ⟨v50, M51, h52, hf⟩ := cl_inv hf
            refine x_cVv C (c_X12_token hN h52) mw_X12_token ln_RX12_113 mi_X12_token (hN.rc (ci := 12) sh108 rc12) (ro_of (by decide) (by decide) (by decide) (by decide)) rfl rfl (Nat.le_of_ble_eq_true rfl) (dkAt dk_X12_actLine 51 rfl) 92 rfl 0 0 rfl rfl ?_
            exact G.weak (L := [some (.ref (wad Γ 108)), some (.int v3), some (.int (((3 : Int32) * v3) + t10)), some (.int t12)]) ⟨rfl, rfl, rfl, rfl, trivial⟩ (hj49 _ hf)
      · refine x_join hf (fun t54 => G Γ X M8 0 0 [some (.ref (wad Γ 108)), some (.int v3), some (.int (((3 : Int32) * v3) + t10))] [] 82) (fun t54 hf => ?_) (fun j55 hj55 hf => ?_)
        · refine x_iconst C (v := (0 : Int32)) (by decide) (dkAt dk_X12_actLine 46 rfl) 83 rfl ?_
          exact G.weak (L := [some (.ref (wad Γ 108)), some (.int v3), some (.int (((3 : Int32) * v3) + t10))]) ⟨rfl, rfl, rfl, trivial⟩ (hj53 _ hf)
        · refine x_if_ne C 82 (dkAt dk_X12_actLine 39 rfl) 70 rfl (by decide) hf (fun hf => ?_) (fun hf => ?_)
          · exact G.weak (L := [some (.ref (wad Γ 108)), some (.int v3), some (.int (((3 : Int32) * v3) + t10))]) ⟨rfl, rfl, rfl, trivial⟩ (hj55 _ hf)
          · refine x_aload_n C rfl rfl (dkAt dk_X12_actLine 40 rfl) 71 rfl ?_
            refine x_getI C lk_RX12_91 (hN.sh sh108) (dkAt dk_X12_actLine 41 rfl) 74 rfl hf (fun v56 hf => ?_)
            refine x_iconst C (v := (4 : Int32)) (by decide) (dkAt dk_X12_actLine 42 rfl) 75 rfl ?_
            refine x_icmp_ne C 82 (dkAt dk_X12_actLine 43 rfl) 78 rfl (by decide) hf (fun hf => ?_) (fun hf => ?_)
            · exact G.weak (L := [some (.ref (wad Γ 108)), some (.int v3), some (.int (((3 : Int32) * v3) + t10))]) ⟨rfl, rfl, rfl, trivial⟩ (hj55 _ hf)
            · refine x_iconst C (v := (1 : Int32)) (by decide) (dkAt dk_X12_actLine 44 rfl) 79 rfl ?_
              refine x_goto C 83 (dkAt dk_X12_actLine 45 rfl) (by decide) ?_
              exact G.weak (L := [some (.ref (wad Γ 108)), some (.int v3), some (.int (((3 : Int32) * v3) + t10))]) ⟨rfl, rfl, rfl, trivial⟩ (hj53 _ hf)
    · refine x_if_ne C 60 (dkAt dk_X12_actLine 26 rfl) 48 rfl (by decide) hf (fun hf => ?_) (fun hf => ?_)
      · refine x_iconst C (v := (0 : Int32)) (by decide) (dkAt dk_X12_actLine 34 rfl) 61 rfl ?_
        exact G.weak (L := [some (.ref (wad Γ 108)), some (.int v3)]) ⟨rfl, rfl, trivial⟩ (hj57 _ hf)
      · refine x_aload_n C rfl rfl (dkAt dk_X12_actLine 27 rfl) 49 rfl ?_
        refine x_getS C lk_RX12_23 (hN.sh sh108) (hN.sr sr108_7) (dkAt dk_X12_actLine 28 rfl) 52 rfl ?_
        refine x_bipush C (v := (8 : Int32)) (by decide) (dkAt dk_X12_actLine 29 rfl) 54 rfl ?_
        refine x_iload_n C rfl rfl (dkAt dk_X12_actLine 30 rfl) 55 rfl ?_
        refine x_iadd C (dkAt dk_X12_actLine 31 rfl) 56 rfl ?_
        refine x_iald C (hN.sh sh113) (dkAt dk_X12_actLine 32 rfl) 57 rfl hf (fun v58 hf => ?_)
        refine x_goto C 61 (dkAt dk_X12_actLine 33 rfl) (by decide) ?_
        exact G.weak (L := [some (.ref (wad Γ 108)), some (.int v3)]) ⟨rfl, rfl, trivial⟩ (hj57 _ hf)
  · refine x_if_ne C 34 (dkAt dk_X12_actLine 7 rfl) 16 rfl (by decide) hf (fun hf => ?_) (fun hf => ?_)
    · exact G.weak (L := [some (.ref (wad Γ 108)), some (.int v3)]) ⟨rfl, rfl, trivial⟩ (hj60 _ hf)
    · refine x_aload_n C rfl rfl (dkAt dk_X12_actLine 8 rfl) 17 rfl ?_
      refine x_getS C lk_RX12_23 (hN.sh sh108) (hN.sr sr108_7) (dkAt dk_X12_actLine 9 rfl) 20 rfl ?_
      refine x_bipush C (v := (8 : Int32)) (by decide) (dkAt dk_X12_actLine 10 rfl) 22 rfl ?_
      refine x_iload_n C rfl rfl (dkAt dk_X12_actLine 11 rfl) 23 rfl ?_
      refine x_iadd C (dkAt dk_X12_actLine 12 rfl) 24 rfl ?_
      refine x_iald C (hN.sh sh113) (dkAt dk_X12_actLine 13 rfl) 25 rfl hf (fun v61 hf => ?_)
      refine x_iconst C (v := (3 : Int32)) (by decide) (dkAt dk_X12_actLine 14 rfl) 26 rfl ?_
      refine x_icmp_ne C 34 (dkAt dk_X12_actLine 15 rfl) 29 rfl (by decide) hf (fun hf => ?_) (fun hf => ?_)
      · exact G.weak (L := [some (.ref (wad Γ 108)), some (.int v3)]) ⟨rfl, rfl, trivial⟩ (hj60 _ hf)
      · refine x_aload_n C rfl rfl (dkAt dk_X12_actLine 16 rfl) 30 rfl ?_
        refine x_iconst C (v := (4 : Int32)) (by decide) (dkAt dk_X12_actLine 17 rfl) 31 rfl ?_
        obtain ⟨v62, M63, h64, hf⟩ := cl_inv hf
        refine x_cVv C (c_X12_fails hN h64) mw_X12_fails ln_RX12_133 mi_X12_fails (hN.rc (ci := 12) sh108 rc12) (ro_of (by decide) (by decide) (by decide) (by decide)) rfl rfl (Nat.le_of_ble_eq_true rfl) (dkAt dk_X12_actLine 18 rfl) 34 rfl 0 0 rfl rfl ?_
        exact G.weak (L := [some (.ref (wad Γ 108)), some (.int v3)]) ⟨rfl, rfl, trivial⟩ (hj60 _ hf)
def f_X12_ruleLine_L53 (Z : Nat) (v3 : Int32) (k : Int32 → Mem → Option (Unit × Mem)) : Nat → Int32 → Int32 → Mem → Option (Unit × Mem)
  | 0, _, _, _ => none
  | n + 1, x11, x12, M13 => bd (gI M13 (108) 19) (fun v14 => (if v14 = 0 then jn (fun (t15 : Unit) => bd (gI M13 (108) 15) (fun v16 => jn (fun (t17 : Mem) => cl (f_X12_takes Z t17 (0 : Int32) ((10 : Int32) - x11)) (fun v18 M19 => nzI (3 : Int32) (cl (f_X12_puts Z M19 (((326 : Int32) + ((3 : Int32) * v3)) + (x12 - x12 / (3 : Int32) * (3 : Int32))) v18) (fun v20 M21 => f_X12_ruleLine_L53 Z v3 k n (x11 + v18) (x12 + (1 : Int32)) M21)))) (fun j24 => jn (fun (t25 : Unit) => cl (f_X12_fails Z M13 (1 : Int32)) (fun v26 M27 => j24 M27)) (fun j29 => (if v16 = (2 : Int32) then rdI M13 113 344 ((8 : Int32) + v3) (fun v30 => (if x12 < v30 then j24 M13 else j29 ())) else j29 ()))))) (fun j31 => (if x12 = 0 then j31 () else bd (gI M13 (108) 15) (fun v32 => (if v32 = (2 : Int32) then j31 () else k x11 M13)))) else k x11 M13))
def f_X12_ruleLine (Z : Nat) (M : Mem)  : Option (Unit × Mem) :=
  cl (f_X12_goesOn Z M) (fun v1 M2 => cl (f_X12_stateHere Z M2) (fun v3 M4 => bd (gI M4 (108) 19) (fun v5 => jn (fun (t6 : Mem) => cl (f_X12_goesOn Z t6) (fun v7 M8 => cl (f_X12_puts Z M8 ((320 : Int32) + v3) (1 : Int32)) (fun v9 M10 => f_X12_ruleLine_L53 Z v3 (fun (y33 : Int32) (M34 : Mem) => jn (fun (t35 : Int32) => cl (f_X12_endsAt Z M34 t35) (fun v36 M37 => some ((), M37))) (fun j39 => (if y33 = (10 : Int32) then j39 (1 : Int32) else j39 (0 : Int32)))) Z (0 : Int32) (0 : Int32) M10))) (fun j42 => (if v5 = 0 then rdI M4 113 344 ((320 : Int32) + v3) (fun v43 => (if v43 = (1 : Int32) then cl (f_X12_fails Z M4 (3 : Int32)) (fun v44 M45 => j42 M45) else j42 M4)) else j42 M4)))))
set_option maxRecDepth 100000 in
theorem l_X12_ruleLine_L53 {Γ : WC} {X : MX} (hN : HN Γ) (C : CX Γ X cX12_ruleLine 5 RX12 none (rmL 4 0 0)) {rM : Unit × Mem} (E : EndN Γ X none rM.2 0 0) {Z : Nat} {v3 : Int32} {k : Int32 → Mem → Option (Unit × Mem)} (hk : ∀ (a2 : Int32) (Mx : Mem), k a2 Mx = some rM → G Γ X Mx 0 0 [some (.ref (wad Γ 108)), none, some (.int a2)] [] 137) : ∀ (n : Nat) (x11 : Int32) (x12 : Int32) (M13 : Mem), f_X12_ruleLine_L53 Z v3 k n x11 x12 M13 = some rM → G Γ X M13 0 0 [some (.ref (wad Γ 108)), some (.int v3), some (.int x11), some (.int x12)] [] 53 := by
  intro n
  induction n with
  | zero =>
    intro x11 x12 M13 hf
    have hf0 : (none : Option _) = some rM := hf
    cases hf0
  | succ n ih =>
    intro x11 x12 M13 hf
    rw [f_X12_ruleLine_L53] at hf
    refine x_aload_n C rfl rfl (dkAt dk_X12_ruleLine 31 rfl) 54 rfl ?_
    refine x_getI C lk_RX12_107 (hN.sh sh108) (dkAt dk_X12_ruleLine 32 rfl) 57 rfl hf (fun v14 hf => ?_)
    refine x_if_ne C 137 (dkAt dk_X12_ruleLine 33 rfl) 60 rfl (by decide) hf (fun hf => ?_) (fun hf => ?_)
    · exact G.weak (L := [some (.ref (wad Γ 108)), none, some (.int x11)]) ⟨rfl, rfl, trivial⟩ (hk _ _ hf)
    · refine x_iload_n C rfl rfl (dkAt dk_X12_ruleLine 34 rfl) 61 rfl ?_
      refine x_join hf (fun t15 => G Γ X M13 0 0 [some (.ref (wad Γ 108)), some (.int v3), some (.int x11), some (.int x12)] [] 72) (fun t15 hf => ?_) (fun j31 hj31 hf => ?_)
      · refine x_aload_n C rfl rfl (dkAt dk_X12_ruleLine 40 rfl) 73 rfl ?_
        refine x_getI C lk_RX12_91 (hN.sh sh108) (dkAt dk_X12_ruleLine 41 rfl) 76 rfl hf (fun v16 hf => ?_)
        refine x_iconst C (v := (2 : Int32)) (by decide) (dkAt dk_X12_ruleLine 42 rfl) 77 rfl ?_
        refine x_join hf (fun t17 => G Γ X t17 0 0 [some (.ref (wad Γ 108)), some (.int v3), some (.int x11), some (.int x12)] [] 98) (fun t17 hf => ?_) (fun j24 hj24 hf => ?_)
        · refine x_aload_n C rfl rfl (dkAt dk_X12_ruleLine 55 rfl) 99 rfl ?_
          refine x_iconst C (v := (0 : Int32)) (by decide) (dkAt dk_X12_ruleLine 56 rfl) 100 rfl ?_
          refine x_bipush C (v := (10 : Int32)) (by decide) (dkAt dk_X12_ruleLine 57 rfl) 102 rfl ?_
          refine x_iload_n C rfl rfl (dkAt dk_X12_ruleLine 58 rfl) 103 rfl ?_
          refine x_isub C (dkAt dk_X12_ruleLine 59 rfl) 104 rfl ?_
          obtain ⟨v18, M19, h23, hf⟩ := cl_inv hf
          refine x_cVi C (c_X12_takes hN h23) mw_X12_takes ln_RX12_152 mi_X12_takes (hN.rc (ci := 12) sh108 rc12) (ro_of (by decide) (by decide) (by decide) (by decide)) rfl rfl (Nat.le_of_ble_eq_true rfl) (dkAt dk_X12_ruleLine 60 rfl) 107 rfl 0 0 rfl rfl ?_
          refine x_istore C (L1 := [some (.ref (wad Γ 108)), some (.int v3), some (.int x11), some (.int x12), some (.int v18)]) (dkAt dk_X12_ruleLine 61 rfl) 109 rfl (by decide) rfl ?_
          refine x_aload_n C rfl rfl (dkAt dk_X12_ruleLine 62 rfl) 110 rfl ?_
          refine x_sipush C (v := (326 : Int32)) (by decide) (dkAt dk_X12_ruleLine 63 rfl) 113 rfl ?_
          refine x_iconst C (v := (3 : Int32)) (by decide) (dkAt dk_X12_ruleLine 64 rfl) 114 rfl ?_
          refine x_iload_n C rfl rfl (dkAt dk_X12_ruleLine 65 rfl) 115 rfl ?_
          refine x_imul C (dkAt dk_X12_ruleLine 66 rfl) 116 rfl ?_
          refine x_iadd C (dkAt dk_X12_ruleLine 67 rfl) 117 rfl ?_
          refine x_iload_n C rfl rfl (dkAt dk_X12_ruleLine 68 rfl) 118 rfl ?_
          refine x_iconst C (v := (3 : Int32)) (by decide) (dkAt dk_X12_ruleLine 69 rfl) 119 rfl ?_
          refine x_irem C (dkAt dk_X12_ruleLine 70 rfl) 120 rfl hf (fun hf => ?_)
          refine x_iadd C (dkAt dk_X12_ruleLine 71 rfl) 121 rfl ?_
          refine x_iload C rfl (dkAt dk_X12_ruleLine 72 rfl) 123 rfl ?_
          obtain ⟨v20, M21, h22, hf⟩ := cl_inv hf
          refine x_cVv C (c_X12_puts hN h22) mw_X12_puts ln_RX12_155 mi_X12_puts (hN.rc (ci := 12) sh108 rc12) (ro_of (by decide) (by decide) (by decide) (by decide)) rfl rfl (Nat.le_of_ble_eq_true rfl) (dkAt dk_X12_ruleLine 73 rfl) 126 rfl 0 0 rfl rfl ?_
          refine x_iload_n C rfl rfl (dkAt dk_X12_ruleLine 74 rfl) 127 rfl ?_
          refine x_iload C rfl (dkAt dk_X12_ruleLine 75 rfl) 129 rfl ?_
          refine x_iadd C (dkAt dk_X12_ruleLine 76 rfl) 130 rfl ?_
          refine x_istore_n C (L1 := [some (.ref (wad Γ 108)), some (.int v3), some (.int (x11 + v18)), some (.int x12), some (.int v18)]) (dkAt dk_X12_ruleLine 77 rfl) 131 rfl rfl (by decide) rfl ?_
          refine x_iinc C (v := (x12 + (1 : Int32))) (L1 := [some (.ref (wad Γ 108)), some (.int v3), some (.int (x11 + v18)), some (.int (x12 + (1 : Int32))), some (.int v18)]) (dkAt dk_X12_ruleLine 78 rfl) 134 rfl rfl rfl (by decide) rfl ?_
          refine x_goto C 53 (dkAt dk_X12_ruleLine 79 rfl) (by decide) ?_
          exact G.weak (L := [some (.ref (wad Γ 108)), some (.int v3), some (.int (x11 + v18)), some (.int (x12 + (1 : Int32)))]) ⟨rfl, rfl, rfl, rfl, trivial⟩ (ih _ _ _ hf)
        · refine x_join hf (fun t25 => G Γ X M13 0 0 [some (.ref (wad Γ 108)), some (.int v3), some (.int x11), some (.int x12)] [] 93) (fun t25 hf => ?_) (fun j29 hj29 hf => ?_)
          · refine x_aload_n C rfl rfl (dkAt dk_X12_ruleLine 52 rfl) 94 rfl ?_
            refine x_iconst C (v := (1 : Int32)) (by decide) (dkAt dk_X12_ruleLine 53 rfl) 95 rfl ?_
            obtain ⟨v26, M27, h28, hf⟩ := cl_inv hf
            refine x_cVv C (c_X12_fails hN h28) mw_X12_fails ln_RX12_133 mi_X12_fails (hN.rc (ci := 12) sh108 rc12) (ro_of (by decide) (by decide) (by decide) (by decide)) rfl rfl (Nat.le_of_ble_eq_true rfl) (dkAt dk_X12_ruleLine 54 rfl) 98 rfl 0 0 rfl rfl ?_
            exact G.weak (L := [some (.ref (wad Γ 108)), some (.int v3), some (.int x11), some (.int x12)]) ⟨rfl, rfl, rfl, rfl, trivial⟩ (hj24 _ hf)
          · refine x_icmp_ne C 93 (dkAt dk_X12_ruleLine 43 rfl) 80 rfl (by decide) hf (fun hf => ?_) (fun hf => ?_)
            · exact G.weak (L := [some (.ref (wad Γ 108)), some (.int v3), some (.int x11), some (.int x12)]) ⟨rfl, rfl, rfl, rfl, trivial⟩ (hj29 _ hf)
            · refine x_iload_n C rfl rfl (dkAt dk_X12_ruleLine 44 rfl) 81 rfl ?_
              refine x_aload_n C rfl rfl (dkAt dk_X12_ruleLine 45 rfl) 82 rfl ?_
              refine x_getS C lk_RX12_23 (hN.sh sh108) (hN.sr sr108_7) (dkAt dk_X12_ruleLine 46 rfl) 85 rfl ?_
              refine x_bipush C (v := (8 : Int32)) (by decide) (dkAt dk_X12_ruleLine 47 rfl) 87 rfl ?_
              refine x_iload_n C rfl rfl (dkAt dk_X12_ruleLine 48 rfl) 88 rfl ?_
              refine x_iadd C (dkAt dk_X12_ruleLine 49 rfl) 89 rfl ?_
              refine x_iald C (hN.sh sh113) (dkAt dk_X12_ruleLine 50 rfl) 90 rfl hf (fun v30 hf => ?_)
              refine x_icmp_lt C 98 (dkAt dk_X12_ruleLine 51 rfl) 93 rfl (by decide) hf (fun hf => ?_) (fun hf => ?_)
              · exact G.weak (L := [some (.ref (wad Γ 108)), some (.int v3), some (.int x11), some (.int x12)]) ⟨rfl, rfl, rfl, rfl, trivial⟩ (hj24 _ hf)
              · exact G.weak (L := [some (.ref (wad Γ 108)), some (.int v3), some (.int x11), some (.int x12)]) ⟨rfl, rfl, rfl, rfl, trivial⟩ (hj29 _ hf)
      · refine x_if_eq C 72 (dkAt dk_X12_ruleLine 35 rfl) 64 rfl (by decide) hf (fun hf => ?_) (fun hf => ?_)
        · exact G.weak (L := [some (.ref (wad Γ 108)), some (.int v3), some (.int x11), some (.int x12)]) ⟨rfl, rfl, rfl, rfl, trivial⟩ (hj31 _ hf)
        · refine x_aload_n C rfl rfl (dkAt dk_X12_ruleLine 36 rfl) 65 rfl ?_
          refine x_getI C lk_RX12_91 (hN.sh sh108) (dkAt dk_X12_ruleLine 37 rfl) 68 rfl hf (fun v32 hf => ?_)
          refine x_iconst C (v := (2 : Int32)) (by decide) (dkAt dk_X12_ruleLine 38 rfl) 69 rfl ?_
          refine x_icmp_ne C 137 (dkAt dk_X12_ruleLine 39 rfl) 72 rfl (by decide) hf (fun hf => ?_) (fun hf => ?_)
          · exact G.weak (L := [some (.ref (wad Γ 108)), none, some (.int x11)]) ⟨rfl, rfl, trivial⟩ (hk _ _ hf)
          · exact G.weak (L := [some (.ref (wad Γ 108)), some (.int v3), some (.int x11), some (.int x12)]) ⟨rfl, rfl, rfl, rfl, trivial⟩ (hj31 _ hf)
set_option maxRecDepth 100000 in
theorem c_X12_ruleLine {Γ : WC} (hN : HN Γ) {Z : Nat} {M : Mem}  {rM : Unit × Mem}  (hf : f_X12_ruleLine Z M  = some rM) : Ct Γ yX12_ruleLine cX12_ruleLine 5 none (rmL 4 0 0) [.ref (wad Γ 108)] M none rM.2 := by
  refine mkN hN.1 (own := RX12) rfl (by decide) (Nat.le_of_ble_eq_true rfl) (fun X C E => ?_)
  change G Γ X M 0 0 [some (.ref (wad Γ 108))] [] 0
  unfold f_X12_ruleLine at hf
  refine x_aload_n C rfl rfl (dkAt dk_X12_ruleLine 0 rfl) 1 rfl ?_
  obtain ⟨v1, M2, h48, hf⟩ := cl_inv hf
  refine x_cVv C (c_X12_goesOn hN h48) mw_X12_goesOn ln_RX12_145 mi_X12_goesOn (hN.rc (ci := 12) sh108 rc12) (ro_of (by decide) (by decide) (by decide) (by decide)) rfl rfl (Nat.le_of_ble_eq_true rfl) (dkAt dk_X12_ruleLine 1 rfl) 4 rfl 0 0 rfl rfl ?_
  refine x_aload_n C rfl rfl (dkAt dk_X12_ruleLine 2 rfl) 5 rfl ?_
  obtain ⟨v3, M4, h47, hf⟩ := cl_inv hf
  refine x_cVi C (c_X12_stateHere hN h47) mw_X12_stateHere ln_RX12_159 mi_X12_stateHere (hN.rc (ci := 12) sh108 rc12) (ro_of (by decide) (by decide) (by decide) (by decide)) rfl rfl (Nat.le_of_ble_eq_true rfl) (dkAt dk_X12_ruleLine 3 rfl) 8 rfl 0 0 rfl rfl ?_
  refine x_istore_n C (L1 := [some (.ref (wad Γ 108)), some (.int v3)]) (dkAt dk_X12_ruleLine 4 rfl) 9 rfl rfl (by decide) rfl ?_
  refine x_aload_n C rfl rfl (dkAt dk_X12_ruleLine 5 rfl) 10 rfl ?_
  refine x_getI C lk_RX12_107 (hN.sh sh108) (dkAt dk_X12_ruleLine 6 rfl) 13 rfl hf (fun v5 hf => ?_)
  refine x_join hf (fun t6 => G Γ X t6 0 0 [some (.ref (wad Γ 108)), some (.int v3)] [] 35) (fun t6 hf => ?_) (fun j42 hj42 hf => ?_)
  · refine x_aload_n C rfl rfl (dkAt dk_X12_ruleLine 19 rfl) 36 rfl ?_
    obtain ⟨v7, M8, h41, hf⟩ := cl_inv hf
    refine x_cVv C (c_X12_goesOn hN h41) mw_X12_goesOn ln_RX12_145 mi_X12_goesOn (hN.rc (ci := 12) sh108 rc12) (ro_of (by decide) (by decide) (by decide) (by decide)) rfl rfl (Nat.le_of_ble_eq_true rfl) (dkAt dk_X12_ruleLine 20 rfl) 39 rfl 0 0 rfl rfl ?_
    refine x_aload_n C rfl rfl (dkAt dk_X12_ruleLine 21 rfl) 40 rfl ?_
    refine x_sipush C (v := (320 : Int32)) (by decide) (dkAt dk_X12_ruleLine 22 rfl) 43 rfl ?_
    refine x_iload_n C rfl rfl (dkAt dk_X12_ruleLine 23 rfl) 44 rfl ?_
    refine x_iadd C (dkAt dk_X12_ruleLine 24 rfl) 45 rfl ?_
    refine x_iconst C (v := (1 : Int32)) (by decide) (dkAt dk_X12_ruleLine 25 rfl) 46 rfl ?_
    obtain ⟨v9, M10, h40, hf⟩ := cl_inv hf
    refine x_cVv C (c_X12_puts hN h40) mw_X12_puts ln_RX12_155 mi_X12_puts (hN.rc (ci := 12) sh108 rc12) (ro_of (by decide) (by decide) (by decide) (by decide)) rfl rfl (Nat.le_of_ble_eq_true rfl) (dkAt dk_X12_ruleLine 26 rfl) 49 rfl 0 0 rfl rfl ?_
    refine x_iconst C (v := (0 : Int32)) (by decide) (dkAt dk_X12_ruleLine 27 rfl) 50 rfl ?_
    refine x_istore_n C (L1 := [some (.ref (wad Γ 108)), some (.int v3), some (.int (0 : Int32))]) (dkAt dk_X12_ruleLine 28 rfl) 51 rfl rfl (by decide) rfl ?_
    refine x_iconst C (v := (0 : Int32)) (by decide) (dkAt dk_X12_ruleLine 29 rfl) 52 rfl ?_
    refine x_istore_n C (L1 := [some (.ref (wad Γ 108)), some (.int v3), some (.int (0 : Int32)), some (.int (0 : Int32))]) (dkAt dk_X12_ruleLine 30 rfl) 53 rfl rfl (by decide) rfl ?_
    refine G.weak (L := [some (.ref (wad Γ 108)), some (.int v3), some (.int (0 : Int32)), some (.int (0 : Int32))]) ⟨rfl, rfl, rfl, rfl, trivial⟩ ?_
    refine l_X12_ruleLine_L53 hN C E ?_ Z _ _ _ hf
    intro y33 M34 hf
    refine x_aload_n C rfl rfl (dkAt dk_X12_ruleLine 80 rfl) 138 rfl ?_
    refine x_iload_n C rfl rfl (dkAt dk_X12_ruleLine 81 rfl) 139 rfl ?_
    refine x_bipush C (v := (10 : Int32)) (by decide) (dkAt dk_X12_ruleLine 82 rfl) 141 rfl ?_
    refine x_join hf (fun t35 => G Γ X M34 0 0 [] [.int t35, .ref (wad Γ 108)] 149) (fun t35 hf => ?_) (fun j39 hj39 hf => ?_)
    · obtain ⟨v36, M37, h38, hf⟩ := cl_inv hf
      refine x_cVv C (c_X12_endsAt hN h38) mw_X12_endsAt ln_RX12_172 mi_X12_endsAt (hN.rc (ci := 12) sh108 rc12) (ro_of (by decide) (by decide) (by decide) (by decide)) rfl rfl (Nat.le_of_ble_eq_true rfl) (dkAt dk_X12_ruleLine 87 rfl) 152 rfl 0 0 rfl rfl ?_
      exact x_vret C E hf (by decide) (by decide) (dkAt dk_X12_ruleLine 88 rfl)
    · refine x_icmp_ne C 148 (dkAt dk_X12_ruleLine 83 rfl) 144 rfl (by decide) hf (fun hf => ?_) (fun hf => ?_)
      · refine x_iconst C (v := (0 : Int32)) (by decide) (dkAt dk_X12_ruleLine 86 rfl) 149 rfl ?_
        exact G.weak (L := []) trivial (hj39 _ hf)
      · refine x_iconst C (v := (1 : Int32)) (by decide) (dkAt dk_X12_ruleLine 84 rfl) 145 rfl ?_
        refine x_goto C 149 (dkAt dk_X12_ruleLine 85 rfl) (by decide) ?_
        exact G.weak (L := []) trivial (hj39 _ hf)
  · refine x_if_ne C 35 (dkAt dk_X12_ruleLine 7 rfl) 16 rfl (by decide) hf (fun hf => ?_) (fun hf => ?_)
    · exact G.weak (L := [some (.ref (wad Γ 108)), some (.int v3)]) ⟨rfl, rfl, trivial⟩ (hj42 _ hf)
    · refine x_aload_n C rfl rfl (dkAt dk_X12_ruleLine 8 rfl) 17 rfl ?_
      refine x_getS C lk_RX12_23 (hN.sh sh108) (hN.sr sr108_7) (dkAt dk_X12_ruleLine 9 rfl) 20 rfl ?_
      refine x_sipush C (v := (320 : Int32)) (by decide) (dkAt dk_X12_ruleLine 10 rfl) 23 rfl ?_
      refine x_iload_n C rfl rfl (dkAt dk_X12_ruleLine 11 rfl) 24 rfl ?_
      refine x_iadd C (dkAt dk_X12_ruleLine 12 rfl) 25 rfl ?_
      refine x_iald C (hN.sh sh113) (dkAt dk_X12_ruleLine 13 rfl) 26 rfl hf (fun v43 hf => ?_)
      refine x_iconst C (v := (1 : Int32)) (by decide) (dkAt dk_X12_ruleLine 14 rfl) 27 rfl ?_
      refine x_icmp_ne C 35 (dkAt dk_X12_ruleLine 15 rfl) 30 rfl (by decide) hf (fun hf => ?_) (fun hf => ?_)
      · exact G.weak (L := [some (.ref (wad Γ 108)), some (.int v3)]) ⟨rfl, rfl, trivial⟩ (hj42 _ hf)
      · refine x_aload_n C rfl rfl (dkAt dk_X12_ruleLine 16 rfl) 31 rfl ?_
        refine x_iconst C (v := (3 : Int32)) (by decide) (dkAt dk_X12_ruleLine 17 rfl) 32 rfl ?_
        obtain ⟨v44, M45, h46, hf⟩ := cl_inv hf
        refine x_cVv C (c_X12_fails hN h46) mw_X12_fails ln_RX12_133 mi_X12_fails (hN.rc (ci := 12) sh108 rc12) (ro_of (by decide) (by decide) (by decide) (by decide)) rfl rfl (Nat.le_of_ble_eq_true rfl) (dkAt dk_X12_ruleLine 18 rfl) 35 rfl 0 0 rfl rfl ?_
        exact G.weak (L := [some (.ref (wad Γ 108)), some (.int v3)]) ⟨rfl, rfl, trivial⟩ (hj42 _ hf)
def f_X12_startLine (Z : Nat) (M : Mem)  : Option (Unit × Mem) :=
  cl (f_X12_goesOn Z M) (fun v1 M2 => rdI M2 113 344 (0 : Int32) (fun v3 => cl (f_X12_takes Z M2 (0 : Int32) (v3 - (1 : Int32))) (fun v4 M5 => cl (f_X12_puts Z M5 (2 : Int32) v4) (fun v6 M7 => some ((), M7)))))
set_option maxRecDepth 100000 in
theorem c_X12_startLine {Γ : WC} (hN : HN Γ) {Z : Nat} {M : Mem}  {rM : Unit × Mem}  (hf : f_X12_startLine Z M  = some rM) : Ct Γ yX12_startLine cX12_startLine 2 none (rmL 4 0 0) [.ref (wad Γ 108)] M none rM.2 := by
  refine mkN hN.1 (own := RX12) rfl (by decide) (Nat.le_of_ble_eq_true rfl) (fun X C E => ?_)
  change G Γ X M 0 0 [some (.ref (wad Γ 108))] [] 0
  unfold f_X12_startLine at hf
  refine x_aload_n C rfl rfl (dkAt dk_X12_startLine 0 rfl) 1 rfl ?_
  obtain ⟨v1, M2, h10, hf⟩ := cl_inv hf
  refine x_cVv C (c_X12_goesOn hN h10) mw_X12_goesOn ln_RX12_145 mi_X12_goesOn (hN.rc (ci := 12) sh108 rc12) (ro_of (by decide) (by decide) (by decide) (by decide)) rfl rfl (Nat.le_of_ble_eq_true rfl) (dkAt dk_X12_startLine 1 rfl) 4 rfl 0 0 rfl rfl ?_
  refine x_aload_n C rfl rfl (dkAt dk_X12_startLine 2 rfl) 5 rfl ?_
  refine x_iconst C (v := (0 : Int32)) (by decide) (dkAt dk_X12_startLine 3 rfl) 6 rfl ?_
  refine x_aload_n C rfl rfl (dkAt dk_X12_startLine 4 rfl) 7 rfl ?_
  refine x_getS C lk_RX12_23 (hN.sh sh108) (hN.sr sr108_7) (dkAt dk_X12_startLine 5 rfl) 10 rfl ?_
  refine x_iconst C (v := (0 : Int32)) (by decide) (dkAt dk_X12_startLine 6 rfl) 11 rfl ?_
  refine x_iald C (hN.sh sh113) (dkAt dk_X12_startLine 7 rfl) 12 rfl hf (fun v3 hf => ?_)
  refine x_iconst C (v := (1 : Int32)) (by decide) (dkAt dk_X12_startLine 8 rfl) 13 rfl ?_
  refine x_isub C (dkAt dk_X12_startLine 9 rfl) 14 rfl ?_
  obtain ⟨v4, M5, h9, hf⟩ := cl_inv hf
  refine x_cVi C (c_X12_takes hN h9) mw_X12_takes ln_RX12_152 mi_X12_takes (hN.rc (ci := 12) sh108 rc12) (ro_of (by decide) (by decide) (by decide) (by decide)) rfl rfl (Nat.le_of_ble_eq_true rfl) (dkAt dk_X12_startLine 10 rfl) 17 rfl 0 0 rfl rfl ?_
  refine x_istore_n C (L1 := [some (.ref (wad Γ 108)), some (.int v4)]) (dkAt dk_X12_startLine 11 rfl) 18 rfl rfl (by decide) rfl ?_
  refine x_aload_n C rfl rfl (dkAt dk_X12_startLine 12 rfl) 19 rfl ?_
  refine x_iconst C (v := (2 : Int32)) (by decide) (dkAt dk_X12_startLine 13 rfl) 20 rfl ?_
  refine x_iload_n C rfl rfl (dkAt dk_X12_startLine 14 rfl) 21 rfl ?_
  obtain ⟨v6, M7, h8, hf⟩ := cl_inv hf
  refine x_cVv C (c_X12_puts hN h8) mw_X12_puts ln_RX12_155 mi_X12_puts (hN.rc (ci := 12) sh108 rc12) (ro_of (by decide) (by decide) (by decide) (by decide)) rfl rfl (Nat.le_of_ble_eq_true rfl) (dkAt dk_X12_startLine 15 rfl) 24 rfl 0 0 rfl rfl ?_
  exact x_vret C E hf (by decide) (by decide) (dkAt dk_X12_startLine 16 rfl)
def f_X12_line (Z : Nat) (M : Mem)  : Option (Unit × Mem) :=
  cl (f_X12_isWord Z M 4) (fun v1 M2 => (if v1 = 0 then cl (f_X12_isWord Z M2 5) (fun v3 M4 => (if v3 = 0 then cl (f_X12_isWord Z M4 8) (fun v5 M6 => (if v5 = 0 then cl (f_X12_isWord Z M6 9) (fun v7 M8 => (if v7 = 0 then cl (f_X12_fails Z M8 (1 : Int32)) (fun v9 M10 => some ((), M10)) else cl (f_X12_startLine Z M8) (fun v12 M13 => some ((), M13)))) else cl (f_X12_ruleLine Z M6) (fun v16 M17 => some ((), M17)))) else cl (f_X12_actLine Z M4) (fun v20 M21 => some ((), M21)))) else cl (f_X12_budgetLine Z M2) (fun v24 M25 => some ((), M25))))
set_option maxRecDepth 100000 in
theorem c_X12_line {Γ : WC} (hN : HN Γ) {Z : Nat} {M : Mem}  {rM : Unit × Mem}  (hf : f_X12_line Z M  = some rM) : Ct Γ yX12_line cX12_line 1 none (rmL 9 0 0) [.ref (wad Γ 108)] M none rM.2 := by
  refine mkN hN.1 (own := RX12) rfl (by decide) (Nat.le_of_ble_eq_true rfl) (fun X C E => ?_)
  change G Γ X M 0 0 [some (.ref (wad Γ 108))] [] 0
  unfold f_X12_line at hf
  refine x_aload_n C rfl rfl (dkAt dk_X12_line 0 rfl) 1 rfl ?_
  refine x_ldcS C (hN.st (i := 30) rfl) (dkAt dk_X12_line 1 rfl) 3 rfl ?_
  obtain ⟨v1, M2, h27, hf⟩ := cl_inv hf
  refine x_cVi C (c_X12_isWord hN (by decide) h27) mw_X12_isWord ln_RX12_126 mi_X12_isWord (hN.rc (ci := 12) sh108 rc12) (ro_of (by decide) (by decide) (by decide) (by decide)) rfl rfl (Nat.le_of_ble_eq_true rfl) (dkAt dk_X12_line 2 rfl) 6 rfl 0 0 rfl rfl ?_
  refine x_if_eq C 16 (dkAt dk_X12_line 3 rfl) 9 rfl (by decide) hf (fun hf => ?_) (fun hf => ?_)
  · refine x_aload_n C rfl rfl (dkAt dk_X12_line 7 rfl) 17 rfl ?_
    refine x_ldcS C (hN.st (i := 31) rfl) (dkAt dk_X12_line 8 rfl) 19 rfl ?_
    obtain ⟨v3, M4, h23, hf⟩ := cl_inv hf
    refine x_cVi C (c_X12_isWord hN (by decide) h23) mw_X12_isWord ln_RX12_126 mi_X12_isWord (hN.rc (ci := 12) sh108 rc12) (ro_of (by decide) (by decide) (by decide) (by decide)) rfl rfl (Nat.le_of_ble_eq_true rfl) (dkAt dk_X12_line 9 rfl) 22 rfl 0 0 rfl rfl ?_
    refine x_if_eq C 32 (dkAt dk_X12_line 10 rfl) 25 rfl (by decide) hf (fun hf => ?_) (fun hf => ?_)
    · refine x_aload_n C rfl rfl (dkAt dk_X12_line 14 rfl) 33 rfl ?_
      refine x_ldcS C (hN.st (i := 34) rfl) (dkAt dk_X12_line 15 rfl) 35 rfl ?_
      obtain ⟨v5, M6, h19, hf⟩ := cl_inv hf
      refine x_cVi C (c_X12_isWord hN (by decide) h19) mw_X12_isWord ln_RX12_126 mi_X12_isWord (hN.rc (ci := 12) sh108 rc12) (ro_of (by decide) (by decide) (by decide) (by decide)) rfl rfl (Nat.le_of_ble_eq_true rfl) (dkAt dk_X12_line 16 rfl) 38 rfl 0 0 rfl rfl ?_
      refine x_if_eq C 48 (dkAt dk_X12_line 17 rfl) 41 rfl (by decide) hf (fun hf => ?_) (fun hf => ?_)
      · refine x_aload_n C rfl rfl (dkAt dk_X12_line 21 rfl) 49 rfl ?_
        refine x_ldcS C (hN.st (i := 35) rfl) (dkAt dk_X12_line 22 rfl) 51 rfl ?_
        obtain ⟨v7, M8, h15, hf⟩ := cl_inv hf
        refine x_cVi C (c_X12_isWord hN (by decide) h15) mw_X12_isWord ln_RX12_126 mi_X12_isWord (hN.rc (ci := 12) sh108 rc12) (ro_of (by decide) (by decide) (by decide) (by decide)) rfl rfl (Nat.le_of_ble_eq_true rfl) (dkAt dk_X12_line 23 rfl) 54 rfl 0 0 rfl rfl ?_
        refine x_if_eq C 64 (dkAt dk_X12_line 24 rfl) 57 rfl (by decide) hf (fun hf => ?_) (fun hf => ?_)
        · refine x_aload_n C rfl rfl (dkAt dk_X12_line 28 rfl) 65 rfl ?_
          refine x_iconst C (v := (1 : Int32)) (by decide) (dkAt dk_X12_line 29 rfl) 66 rfl ?_
          obtain ⟨v9, M10, h11, hf⟩ := cl_inv hf
          refine x_cVv C (c_X12_fails hN h11) mw_X12_fails ln_RX12_133 mi_X12_fails (hN.rc (ci := 12) sh108 rc12) (ro_of (by decide) (by decide) (by decide) (by decide)) rfl rfl (Nat.le_of_ble_eq_true rfl) (dkAt dk_X12_line 30 rfl) 69 rfl 0 0 rfl rfl ?_
          exact x_vret C E hf (by decide) (by decide) (dkAt dk_X12_line 31 rfl)
        · refine x_aload_n C rfl rfl (dkAt dk_X12_line 25 rfl) 58 rfl ?_
          obtain ⟨v12, M13, h14, hf⟩ := cl_inv hf
          refine x_cVv C (c_X12_startLine hN h14) mw_X12_startLine ln_RX12_193 mi_X12_startLine (hN.rc (ci := 12) sh108 rc12) (ro_of (by decide) (by decide) (by decide) (by decide)) rfl rfl (Nat.le_of_ble_eq_true rfl) (dkAt dk_X12_line 26 rfl) 61 rfl 0 0 rfl rfl ?_
          refine x_goto C 69 (dkAt dk_X12_line 27 rfl) (by decide) ?_
          exact x_vret C E hf (by decide) (by decide) (dkAt dk_X12_line 31 rfl)
      · refine x_aload_n C rfl rfl (dkAt dk_X12_line 18 rfl) 42 rfl ?_
        obtain ⟨v16, M17, h18, hf⟩ := cl_inv hf
        refine x_cVv C (c_X12_ruleLine hN h18) mw_X12_ruleLine ln_RX12_188 mi_X12_ruleLine (hN.rc (ci := 12) sh108 rc12) (ro_of (by decide) (by decide) (by decide) (by decide)) rfl rfl (Nat.le_of_ble_eq_true rfl) (dkAt dk_X12_line 19 rfl) 45 rfl 0 0 rfl rfl ?_
        refine x_goto C 69 (dkAt dk_X12_line 20 rfl) (by decide) ?_
        exact x_vret C E hf (by decide) (by decide) (dkAt dk_X12_line 31 rfl)
    · refine x_aload_n C rfl rfl (dkAt dk_X12_line 11 rfl) 26 rfl ?_
      obtain ⟨v20, M21, h22, hf⟩ := cl_inv hf
      refine x_cVv C (c_X12_actLine hN h22) mw_X12_actLine ln_RX12_183 mi_X12_actLine (hN.rc (ci := 12) sh108 rc12) (ro_of (by decide) (by decide) (by decide) (by decide)) rfl rfl (Nat.le_of_ble_eq_true rfl) (dkAt dk_X12_line 12 rfl) 29 rfl 0 0 rfl rfl ?_
      refine x_goto C 69 (dkAt dk_X12_line 13 rfl) (by decide) ?_
      exact x_vret C E hf (by decide) (by decide) (dkAt dk_X12_line 31 rfl)
  · refine x_aload_n C rfl rfl (dkAt dk_X12_line 4 rfl) 10 rfl ?_
    obtain ⟨v24, M25, h26, hf⟩ := cl_inv hf
    refine x_cVv C (c_X12_budgetLine hN h26) mw_X12_budgetLine ln_RX12_178 mi_X12_budgetLine (hN.rc (ci := 12) sh108 rc12) (ro_of (by decide) (by decide) (by decide) (by decide)) rfl rfl (Nat.le_of_ble_eq_true rfl) (dkAt dk_X12_line 5 rfl) 13 rfl 0 0 rfl rfl ?_
    refine x_goto C 69 (dkAt dk_X12_line 6 rfl) (by decide) ?_
    exact x_vret C E hf (by decide) (by decide) (dkAt dk_X12_line 31 rfl)
def f_X12_reads_L22 (Z : Nat) (k : Mem → Option (Unit × Mem)) : Nat → Int32 → Mem → Option (Unit × Mem)
  | 0, _, _ => none
  | n + 1, x5, M6 => (if (344 : Int32) ≤ x5 then k M6 else wrI M6 113 344 x5 (0 : Int32) (fun M7 => f_X12_reads_L22 Z k n (x5 + (1 : Int32)) M7))
def f_X12_reads_L94 (Z : Nat) (k : Mem → Option (Unit × Mem)) : Nat → Mem → Option (Unit × Mem)
  | 0, _ => none
  | n + 1, M25 => bd (gI M25 (108) 19) (fun v26 => (if v26 = 0 then bd (gI M25 (108) 15) (fun v27 => (if v27 = (3 : Int32) then cl (f_X12_token Z M25) (fun v28 M29 => cl (f_X12_line Z M29) (fun v30 M31 => f_X12_reads_L94 Z k n M31)) else k M25)) else k M25))
def f_X12_reads_L134 (Z : Nat) : Nat → Int32 → Mem → Option (Unit × Mem)
  | 0, _, _ => none
  | n + 1, x37, M38 => rdI M38 113 344 (0 : Int32) (fun v39 => (if v39 ≤ x37 then some ((), M38) else rdI M38 113 344 ((8 : Int32) + x37) (fun v40 => jn (fun (t41 : Mem) => f_X12_reads_L134 Z n (x37 + (1 : Int32)) t41) (fun j42 => (if v40 = 0 then cl (f_X12_fails Z M38 (6 : Int32)) (fun v43 M44 => j42 M44) else j42 M38)))))
def f_X12_reads (Z : Nat) (M : Mem) (p0 : Int32) : Option (Unit × Mem) :=
  bd (sI M (108) 12 p0) (fun M1 => bd (sI M1 (108) 13 (0 : Int32)) (fun M2 => bd (sI M2 (108) 19 (0 : Int32)) (fun M3 => bd (sI M3 (108) 20 (-1 : Int32)) (fun M4 => f_X12_reads_L22 Z (fun (M8 : Mem) => cl (f_X12_token Z M8) (fun v9 M10 => cl (f_X12_expects Z M10 0) (fun v11 M12 => cl (f_X12_takes_ Z M12 1 (1 : Int32) (6 : Int32)) (fun v13 M14 => cl (f_X12_puts Z M14 (0 : Int32) v13) (fun v15 M16 => cl (f_X12_takes_ Z M16 2 (1 : Int32) (5 : Int32)) (fun v17 M18 => cl (f_X12_puts Z M18 (3 : Int32) v17) (fun v19 M20 => cl (f_X12_takes_ Z M20 3 (0 : Int32) (30010 : Int32)) (fun v21 M22 => cl (f_X12_puts Z M22 (4 : Int32) v21) (fun v23 M24 => f_X12_reads_L94 Z (fun (M34 : Mem) => bd (gI M34 (108) 15) (fun v35 => jn (fun (t36 : Mem) => f_X12_reads_L134 Z Z (0 : Int32) t36) (fun j46 => (if v35 = 0 then j46 M34 else cl (f_X12_fails Z M34 (1 : Int32)) (fun v47 M48 => j46 M48))))) Z M24))))))))) Z (0 : Int32) M4))))
set_option maxRecDepth 100000 in
theorem l_X12_reads_L22 {Γ : WC} {X : MX} (hN : HN Γ) (C : CX Γ X cX12_reads 3 RX12 none (rmL 10 0 0)) {rM : Unit × Mem} (E : EndN Γ X none rM.2 0 0) {Z : Nat} {k : Mem → Option (Unit × Mem)} (hk : ∀  (Mx : Mem), k Mx = some rM → G Γ X Mx 0 0 [some (.ref (wad Γ 108))] [] 42) : ∀ (n : Nat) (x5 : Int32) (M6 : Mem), f_X12_reads_L22 Z k n x5 M6 = some rM → G Γ X M6 0 0 [some (.ref (wad Γ 108)), none, some (.int x5)] [] 22 := by
  intro n
  induction n with
  | zero =>
    intro x5 M6 hf
    have hf0 : (none : Option _) = some rM := hf
    cases hf0
  | succ n ih =>
    intro x5 M6 hf
    rw [f_X12_reads_L22] at hf
    refine x_iload_n C rfl rfl (dkAt dk_X12_reads 14 rfl) 23 rfl ?_
    refine x_sipush C (v := (344 : Int32)) (by decide) (dkAt dk_X12_reads 15 rfl) 26 rfl ?_
    refine x_icmp_ge C 42 (dkAt dk_X12_reads 16 rfl) 29 rfl (by decide) hf (fun hf => ?_) (fun hf => ?_)
    · exact G.weak (L := [some (.ref (wad Γ 108))]) ⟨rfl, trivial⟩ (hk _ hf)
    · refine x_aload_n C rfl rfl (dkAt dk_X12_reads 17 rfl) 30 rfl ?_
      refine x_getS C lk_RX12_23 (hN.sh sh108) (hN.sr sr108_7) (dkAt dk_X12_reads 18 rfl) 33 rfl ?_
      refine x_iload_n C rfl rfl (dkAt dk_X12_reads 19 rfl) 34 rfl ?_
      refine x_iconst C (v := (0 : Int32)) (by decide) (dkAt dk_X12_reads 20 rfl) 35 rfl ?_
      refine x_iast C (hN.sh sh113) (dkAt dk_X12_reads 21 rfl) 36 rfl hf (fun M7 hf => ?_)
      refine x_iinc C (v := (x5 + (1 : Int32))) (L1 := [some (.ref (wad Γ 108)), none, some (.int (x5 + (1 : Int32)))]) (dkAt dk_X12_reads 22 rfl) 39 rfl rfl rfl (by decide) rfl ?_
      refine x_goto C 22 (dkAt dk_X12_reads 23 rfl) (by decide) ?_
      exact G.weak (L := [some (.ref (wad Γ 108)), none, some (.int (x5 + (1 : Int32)))]) ⟨rfl, rfl, trivial⟩ (ih _ _ hf)
set_option maxRecDepth 100000 in
theorem l_X12_reads_L94 {Γ : WC} {X : MX} (hN : HN Γ) (C : CX Γ X cX12_reads 3 RX12 none (rmL 10 0 0)) {rM : Unit × Mem} (E : EndN Γ X none rM.2 0 0) {Z : Nat} {k : Mem → Option (Unit × Mem)} (hk : ∀  (Mx : Mem), k Mx = some rM → G Γ X Mx 0 0 [some (.ref (wad Γ 108))] [] 120) : ∀ (n : Nat) (M25 : Mem), f_X12_reads_L94 Z k n M25 = some rM → G Γ X M25 0 0 [some (.ref (wad Γ 108))] [] 94 := by
  intro n
  induction n with
  | zero =>
    intro M25 hf
    have hf0 : (none : Option _) = some rM := hf
    cases hf0
  | succ n ih =>
    intro M25 hf
    rw [f_X12_reads_L94] at hf
    refine x_aload_n C rfl rfl (dkAt dk_X12_reads 53 rfl) 95 rfl ?_
    refine x_getI C lk_RX12_107 (hN.sh sh108) (dkAt dk_X12_reads 54 rfl) 98 rfl hf (fun v26 hf => ?_)
    refine x_if_ne C 120 (dkAt dk_X12_reads 55 rfl) 101 rfl (by decide) hf (fun hf => ?_) (fun hf => ?_)
    · exact G.weak (L := [some (.ref (wad Γ 108))]) ⟨rfl, trivial⟩ (hk _ hf)
    · refine x_aload_n C rfl rfl (dkAt dk_X12_reads 56 rfl) 102 rfl ?_
      refine x_getI C lk_RX12_91 (hN.sh sh108) (dkAt dk_X12_reads 57 rfl) 105 rfl hf (fun v27 hf => ?_)
      refine x_iconst C (v := (3 : Int32)) (by decide) (dkAt dk_X12_reads 58 rfl) 106 rfl ?_
      refine x_icmp_ne C 120 (dkAt dk_X12_reads 59 rfl) 109 rfl (by decide) hf (fun hf => ?_) (fun hf => ?_)
      · exact G.weak (L := [some (.ref (wad Γ 108))]) ⟨rfl, trivial⟩ (hk _ hf)
      · refine x_aload_n C rfl rfl (dkAt dk_X12_reads 60 rfl) 110 rfl ?_
        obtain ⟨v28, M29, h33, hf⟩ := cl_inv hf
        refine x_cVv C (c_X12_token hN h33) mw_X12_token ln_RX12_113 mi_X12_token (hN.rc (ci := 12) sh108 rc12) (ro_of (by decide) (by decide) (by decide) (by decide)) rfl rfl (Nat.le_of_ble_eq_true rfl) (dkAt dk_X12_reads 61 rfl) 113 rfl 0 0 rfl rfl ?_
        refine x_aload_n C rfl rfl (dkAt dk_X12_reads 62 rfl) 114 rfl ?_
        obtain ⟨v30, M31, h32, hf⟩ := cl_inv hf
        refine x_cVv C (c_X12_line hN h32) mw_X12_line ln_RX12_207 mi_X12_line (hN.rc (ci := 12) sh108 rc12) (ro_of (by decide) (by decide) (by decide) (by decide)) rfl rfl (Nat.le_of_ble_eq_true rfl) (dkAt dk_X12_reads 63 rfl) 117 rfl 0 0 rfl rfl ?_
        refine x_goto C 94 (dkAt dk_X12_reads 64 rfl) (by decide) ?_
        exact G.weak (L := [some (.ref (wad Γ 108))]) ⟨rfl, trivial⟩ (ih _ hf)
set_option maxRecDepth 100000 in
theorem l_X12_reads_L134 {Γ : WC} {X : MX} (hN : HN Γ) (C : CX Γ X cX12_reads 3 RX12 none (rmL 10 0 0)) {rM : Unit × Mem} (E : EndN Γ X none rM.2 0 0) {Z : Nat} : ∀ (n : Nat) (x37 : Int32) (M38 : Mem), f_X12_reads_L134 Z n x37 M38 = some rM → G Γ X M38 0 0 [some (.ref (wad Γ 108)), none, some (.int x37)] [] 134 := by
  intro n
  induction n with
  | zero =>
    intro x37 M38 hf
    have hf0 : (none : Option _) = some rM := hf
    cases hf0
  | succ n ih =>
    intro x37 M38 hf
    rw [f_X12_reads_L134] at hf
    refine x_iload_n C rfl rfl (dkAt dk_X12_reads 73 rfl) 135 rfl ?_
    refine x_aload_n C rfl rfl (dkAt dk_X12_reads 74 rfl) 136 rfl ?_
    refine x_getS C lk_RX12_23 (hN.sh sh108) (hN.sr sr108_7) (dkAt dk_X12_reads 75 rfl) 139 rfl ?_
    refine x_iconst C (v := (0 : Int32)) (by decide) (dkAt dk_X12_reads 76 rfl) 140 rfl ?_
    refine x_iald C (hN.sh sh113) (dkAt dk_X12_reads 77 rfl) 141 rfl hf (fun v39 hf => ?_)
    refine x_icmp_ge C 168 (dkAt dk_X12_reads 78 rfl) 144 rfl (by decide) hf (fun hf => ?_) (fun hf => ?_)
    · exact x_vret C E hf (by decide) (by decide) (dkAt dk_X12_reads 91 rfl)
    · refine x_aload_n C rfl rfl (dkAt dk_X12_reads 79 rfl) 145 rfl ?_
      refine x_getS C lk_RX12_23 (hN.sh sh108) (hN.sr sr108_7) (dkAt dk_X12_reads 80 rfl) 148 rfl ?_
      refine x_bipush C (v := (8 : Int32)) (by decide) (dkAt dk_X12_reads 81 rfl) 150 rfl ?_
      refine x_iload_n C rfl rfl (dkAt dk_X12_reads 82 rfl) 151 rfl ?_
      refine x_iadd C (dkAt dk_X12_reads 83 rfl) 152 rfl ?_
      refine x_iald C (hN.sh sh113) (dkAt dk_X12_reads 84 rfl) 153 rfl hf (fun v40 hf => ?_)
      refine x_join hf (fun t41 => G Γ X t41 0 0 [some (.ref (wad Γ 108)), none, some (.int x37)] [] 162) (fun t41 hf => ?_) (fun j42 hj42 hf => ?_)
      · refine x_iinc C (v := (x37 + (1 : Int32))) (L1 := [some (.ref (wad Γ 108)), none, some (.int (x37 + (1 : Int32)))]) (dkAt dk_X12_reads 89 rfl) 165 rfl rfl rfl (by decide) rfl ?_
        refine x_goto C 134 (dkAt dk_X12_reads 90 rfl) (by decide) ?_
        exact G.weak (L := [some (.ref (wad Γ 108)), none, some (.int (x37 + (1 : Int32)))]) ⟨rfl, rfl, trivial⟩ (ih _ _ hf)
      · refine x_if_ne C 162 (dkAt dk_X12_reads 85 rfl) 156 rfl (by decide) hf (fun hf => ?_) (fun hf => ?_)
        · exact G.weak (L := [some (.ref (wad Γ 108)), none, some (.int x37)]) ⟨rfl, rfl, trivial⟩ (hj42 _ hf)
        · refine x_aload_n C rfl rfl (dkAt dk_X12_reads 86 rfl) 157 rfl ?_
          refine x_bipush C (v := (6 : Int32)) (by decide) (dkAt dk_X12_reads 87 rfl) 159 rfl ?_
          obtain ⟨v43, M44, h45, hf⟩ := cl_inv hf
          refine x_cVv C (c_X12_fails hN h45) mw_X12_fails ln_RX12_133 mi_X12_fails (hN.rc (ci := 12) sh108 rc12) (ro_of (by decide) (by decide) (by decide) (by decide)) rfl rfl (Nat.le_of_ble_eq_true rfl) (dkAt dk_X12_reads 88 rfl) 162 rfl 0 0 rfl rfl ?_
          exact G.weak (L := [some (.ref (wad Γ 108)), none, some (.int x37)]) ⟨rfl, rfl, trivial⟩ (hj42 _ hf)
set_option maxRecDepth 100000 in
theorem c_X12_reads {Γ : WC} (hN : HN Γ) {Z : Nat} {M : Mem} {p0 : Int32} {rM : Unit × Mem}  (hf : f_X12_reads Z M p0 = some rM) : Ct Γ yX12_reads cX12_reads 3 none (rmL 10 0 0) [.ref (wad Γ 108), .int p0] M none rM.2 := by
  refine mkN hN.1 (own := RX12) rfl (by decide) (Nat.le_of_ble_eq_true rfl) (fun X C E => ?_)
  change G Γ X M 0 0 [some (.ref (wad Γ 108)), some (.int p0)] [] 0
  unfold f_X12_reads at hf
  refine x_aload_n C rfl rfl (dkAt dk_X12_reads 0 rfl) 1 rfl ?_
  refine x_iload_n C rfl rfl (dkAt dk_X12_reads 1 rfl) 2 rfl ?_
  refine x_putI C pk_RX12_78 ⟨_, rfl⟩ (hN.sh sh108) (dkAt dk_X12_reads 2 rfl) 5 rfl hf (fun M1 hf => ?_)
  refine x_aload_n C rfl rfl (dkAt dk_X12_reads 3 rfl) 6 rfl ?_
  refine x_iconst C (v := (0 : Int32)) (by decide) (dkAt dk_X12_reads 4 rfl) 7 rfl ?_
  refine x_putI C pk_RX12_81 ⟨_, rfl⟩ (hN.sh sh108) (dkAt dk_X12_reads 5 rfl) 10 rfl hf (fun M2 hf => ?_)
  refine x_aload_n C rfl rfl (dkAt dk_X12_reads 6 rfl) 11 rfl ?_
  refine x_iconst C (v := (0 : Int32)) (by decide) (dkAt dk_X12_reads 7 rfl) 12 rfl ?_
  refine x_putI C pk_RX12_107 ⟨_, rfl⟩ (hN.sh sh108) (dkAt dk_X12_reads 8 rfl) 15 rfl hf (fun M3 hf => ?_)
  refine x_aload_n C rfl rfl (dkAt dk_X12_reads 9 rfl) 16 rfl ?_
  refine x_iconst C (v := (-1 : Int32)) (by decide) (dkAt dk_X12_reads 10 rfl) 17 rfl ?_
  refine x_putI C pk_RX12_110 ⟨_, rfl⟩ (hN.sh sh108) (dkAt dk_X12_reads 11 rfl) 20 rfl hf (fun M4 hf => ?_)
  refine x_iconst C (v := (0 : Int32)) (by decide) (dkAt dk_X12_reads 12 rfl) 21 rfl ?_
  refine x_istore_n C (L1 := [some (.ref (wad Γ 108)), some (.int p0), some (.int (0 : Int32))]) (dkAt dk_X12_reads 13 rfl) 22 rfl rfl (by decide) rfl ?_
  refine G.weak (L := [some (.ref (wad Γ 108)), none, some (.int (0 : Int32))]) ⟨rfl, rfl, trivial⟩ ?_
  refine l_X12_reads_L22 hN C E ?_ Z _ _ hf
  intro M8 hf
  refine x_aload_n C rfl rfl (dkAt dk_X12_reads 24 rfl) 43 rfl ?_
  obtain ⟨v9, M10, h57, hf⟩ := cl_inv hf
  refine x_cVv C (c_X12_token hN h57) mw_X12_token ln_RX12_113 mi_X12_token (hN.rc (ci := 12) sh108 rc12) (ro_of (by decide) (by decide) (by decide) (by decide)) rfl rfl (Nat.le_of_ble_eq_true rfl) (dkAt dk_X12_reads 25 rfl) 46 rfl 0 0 rfl rfl ?_
  refine x_aload_n C rfl rfl (dkAt dk_X12_reads 26 rfl) 47 rfl ?_
  refine x_ldcS C (hN.st (i := 26) rfl) (dkAt dk_X12_reads 27 rfl) 49 rfl ?_
  obtain ⟨v11, M12, h56, hf⟩ := cl_inv hf
  refine x_cVv C (c_X12_expects hN (by decide) h56) mw_X12_expects ln_RX12_148 mi_X12_expects (hN.rc (ci := 12) sh108 rc12) (ro_of (by decide) (by decide) (by decide) (by decide)) rfl rfl (Nat.le_of_ble_eq_true rfl) (dkAt dk_X12_reads 28 rfl) 52 rfl 0 0 rfl rfl ?_
  refine x_aload_n C rfl rfl (dkAt dk_X12_reads 29 rfl) 53 rfl ?_
  refine x_iconst C (v := (0 : Int32)) (by decide) (dkAt dk_X12_reads 30 rfl) 54 rfl ?_
  refine x_aload_n C rfl rfl (dkAt dk_X12_reads 31 rfl) 55 rfl ?_
  refine x_ldcS C (hN.st (i := 27) rfl) (dkAt dk_X12_reads 32 rfl) 57 rfl ?_
  refine x_iconst C (v := (1 : Int32)) (by decide) (dkAt dk_X12_reads 33 rfl) 58 rfl ?_
  refine x_bipush C (v := (6 : Int32)) (by decide) (dkAt dk_X12_reads 34 rfl) 60 rfl ?_
  obtain ⟨v13, M14, h55, hf⟩ := cl_inv hf
  refine x_cVi C (c_X12_takes_ hN (by decide) h55) mw_X12_takes_ ln_RX12_200 mi_X12_takes_ (hN.rc (ci := 12) sh108 rc12) (ro_of (by decide) (by decide) (by decide) (by decide)) rfl rfl (Nat.le_of_ble_eq_true rfl) (dkAt dk_X12_reads 35 rfl) 63 rfl 0 0 rfl rfl ?_
  obtain ⟨v15, M16, h54, hf⟩ := cl_inv hf
  refine x_cVv C (c_X12_puts hN h54) mw_X12_puts ln_RX12_155 mi_X12_puts (hN.rc (ci := 12) sh108 rc12) (ro_of (by decide) (by decide) (by decide) (by decide)) rfl rfl (Nat.le_of_ble_eq_true rfl) (dkAt dk_X12_reads 36 rfl) 66 rfl 0 0 rfl rfl ?_
  refine x_aload_n C rfl rfl (dkAt dk_X12_reads 37 rfl) 67 rfl ?_
  refine x_iconst C (v := (3 : Int32)) (by decide) (dkAt dk_X12_reads 38 rfl) 68 rfl ?_
  refine x_aload_n C rfl rfl (dkAt dk_X12_reads 39 rfl) 69 rfl ?_
  refine x_ldcS C (hN.st (i := 28) rfl) (dkAt dk_X12_reads 40 rfl) 71 rfl ?_
  refine x_iconst C (v := (1 : Int32)) (by decide) (dkAt dk_X12_reads 41 rfl) 72 rfl ?_
  refine x_iconst C (v := (5 : Int32)) (by decide) (dkAt dk_X12_reads 42 rfl) 73 rfl ?_
  obtain ⟨v17, M18, h53, hf⟩ := cl_inv hf
  refine x_cVi C (c_X12_takes_ hN (by decide) h53) mw_X12_takes_ ln_RX12_200 mi_X12_takes_ (hN.rc (ci := 12) sh108 rc12) (ro_of (by decide) (by decide) (by decide) (by decide)) rfl rfl (Nat.le_of_ble_eq_true rfl) (dkAt dk_X12_reads 43 rfl) 76 rfl 0 0 rfl rfl ?_
  obtain ⟨v19, M20, h52, hf⟩ := cl_inv hf
  refine x_cVv C (c_X12_puts hN h52) mw_X12_puts ln_RX12_155 mi_X12_puts (hN.rc (ci := 12) sh108 rc12) (ro_of (by decide) (by decide) (by decide) (by decide)) rfl rfl (Nat.le_of_ble_eq_true rfl) (dkAt dk_X12_reads 44 rfl) 79 rfl 0 0 rfl rfl ?_
  refine x_aload_n C rfl rfl (dkAt dk_X12_reads 45 rfl) 80 rfl ?_
  refine x_iconst C (v := (4 : Int32)) (by decide) (dkAt dk_X12_reads 46 rfl) 81 rfl ?_
  refine x_aload_n C rfl rfl (dkAt dk_X12_reads 47 rfl) 82 rfl ?_
  refine x_ldcS C (hN.st (i := 29) rfl) (dkAt dk_X12_reads 48 rfl) 84 rfl ?_
  refine x_iconst C (v := (0 : Int32)) (by decide) (dkAt dk_X12_reads 49 rfl) 85 rfl ?_
  refine x_sipush C (v := (30010 : Int32)) (by decide) (dkAt dk_X12_reads 50 rfl) 88 rfl ?_
  obtain ⟨v21, M22, h51, hf⟩ := cl_inv hf
  refine x_cVi C (c_X12_takes_ hN (by decide) h51) mw_X12_takes_ ln_RX12_200 mi_X12_takes_ (hN.rc (ci := 12) sh108 rc12) (ro_of (by decide) (by decide) (by decide) (by decide)) rfl rfl (Nat.le_of_ble_eq_true rfl) (dkAt dk_X12_reads 51 rfl) 91 rfl 0 0 rfl rfl ?_
  obtain ⟨v23, M24, h50, hf⟩ := cl_inv hf
  refine x_cVv C (c_X12_puts hN h50) mw_X12_puts ln_RX12_155 mi_X12_puts (hN.rc (ci := 12) sh108 rc12) (ro_of (by decide) (by decide) (by decide) (by decide)) rfl rfl (Nat.le_of_ble_eq_true rfl) (dkAt dk_X12_reads 52 rfl) 94 rfl 0 0 rfl rfl ?_
  refine G.weak (L := [some (.ref (wad Γ 108))]) ⟨rfl, trivial⟩ ?_
  refine l_X12_reads_L94 hN C E ?_ Z _ hf
  intro M34 hf
  refine x_aload_n C rfl rfl (dkAt dk_X12_reads 65 rfl) 121 rfl ?_
  refine x_getI C lk_RX12_91 (hN.sh sh108) (dkAt dk_X12_reads 66 rfl) 124 rfl hf (fun v35 hf => ?_)
  refine x_join hf (fun t36 => G Γ X t36 0 0 [some (.ref (wad Γ 108))] [] 132) (fun t36 hf => ?_) (fun j46 hj46 hf => ?_)
  · refine x_iconst C (v := (0 : Int32)) (by decide) (dkAt dk_X12_reads 71 rfl) 133 rfl ?_
    refine x_istore_n C (L1 := [some (.ref (wad Γ 108)), none, some (.int (0 : Int32))]) (dkAt dk_X12_reads 72 rfl) 134 rfl rfl (by decide) rfl ?_
    refine G.weak (L := [some (.ref (wad Γ 108)), none, some (.int (0 : Int32))]) ⟨rfl, rfl, trivial⟩ ?_
    refine l_X12_reads_L134 hN C E Z _ _ hf
  · refine x_if_eq C 132 (dkAt dk_X12_reads 67 rfl) 127 rfl (by decide) hf (fun hf => ?_) (fun hf => ?_)
    · exact G.weak (L := [some (.ref (wad Γ 108))]) ⟨rfl, trivial⟩ (hj46 _ hf)
    · refine x_aload_n C rfl rfl (dkAt dk_X12_reads 68 rfl) 128 rfl ?_
      refine x_iconst C (v := (1 : Int32)) (by decide) (dkAt dk_X12_reads 69 rfl) 129 rfl ?_
      obtain ⟨v47, M48, h49, hf⟩ := cl_inv hf
      refine x_cVv C (c_X12_fails hN h49) mw_X12_fails ln_RX12_133 mi_X12_fails (hN.rc (ci := 12) sh108 rc12) (ro_of (by decide) (by decide) (by decide) (by decide)) rfl rfl (Nat.le_of_ble_eq_true rfl) (dkAt dk_X12_reads 70 rfl) 132 rfl 0 0 rfl rfl ?_
      exact G.weak (L := [some (.ref (wad Γ 108))]) ⟨rfl, trivial⟩ (hj46 _ hf)
def f_X12_starts_L4 (Z : Nat) (k : Mem → Option (Int32 × Mem)) : Nat → Int32 → Mem → Option (Int32 × Mem)
  | 0, _, _ => none
  | n + 1, x1, M2 => (if (54 : Int32) ≤ x1 then k M2 else wrI M2 109 54 x1 (0 : Int32) (fun M3 => f_X12_starts_L4 Z k n (x1 + (1 : Int32)) M3))
def f_X12_starts_L25 (Z : Nat) (k : Mem → Option (Int32 × Mem)) : Nat → Int32 → Mem → Option (Int32 × Mem)
  | 0, _, _ => none
  | n + 1, x5, M6 => (if (3 : Int32) ≤ x5 then k M6 else rdI M6 112 344 ((2 : Int32) + x5) (fun v7 => wrI M6 109 54 x5 v7 (fun M8 => rdI M8 112 344 ((5 : Int32) + x5) (fun v9 => wrI M8 109 54 ((40 : Int32) + x5) v9 (fun M10 => f_X12_starts_L25 Z k n (x5 + (1 : Int32)) M10)))))
def f_X12_starts_L100 (Z : Nat) (x13 : Int32) (x14 : Int32) (v17 : Int32) (k : Mem → Option (Int32 × Mem)) : Nat → Int32 → Mem → Option (Int32 × Mem)
  | 0, _, _ => none
  | n + 1, x18, M19 => rdI M19 112 344 ((8 : Int32) + x14) (fun v20 => (if v20 ≤ x18 then k M19 else rdI M19 112 344 ((320 : Int32) + x14) (fun v21 => jn (fun (t22 : Int32) => wrI M19 109 54 (((4 : Int32) + ((3 : Int32) * x14)) + x18) t22 (fun M23 => wrI M23 109 54 (((22 : Int32) + ((3 : Int32) * x14)) + x18) (1 : Int32) (fun M24 => f_X12_starts_L100 Z x13 x14 v17 k n (x18 + (1 : Int32)) M24))) (fun j25 => (if v21 = (1 : Int32) then rdI M19 112 344 (((326 : Int32) + ((3 : Int32) * x14)) + x18) (fun v26 => j25 v26) else (if x18 = 0 then j25 (10 : Int32) else j25 (0 : Int32)))))))
def f_X12_starts_L76 (Z : Nat) : Nat → Int32 → Int32 → Mem → Option (Int32 × Mem)
  | 0, _, _, _ => none
  | n + 1, x13, x14, M15 => rdI M15 112 344 (0 : Int32) (fun v16 => (if v16 ≤ x14 then some (x13, M15) else rdI M15 112 344 ((8 : Int32) + x14) (fun v17 => f_X12_starts_L100 Z x13 x14 v17 (fun (M27 : Mem) => f_X12_starts_L76 Z n (x13 + v17) (x14 + (1 : Int32)) M27) Z (0 : Int32) M15)))
def f_X12_starts (Z : Nat) (M : Mem)  : Option (Int32 × Mem) :=
  f_X12_starts_L4 Z (fun (M4 : Mem) => f_X12_starts_L25 Z (fun (M11 : Mem) => wrI M11 109 54 (3 : Int32) (-1 : Int32) (fun M12 => f_X12_starts_L76 Z Z (0 : Int32) (0 : Int32) M12)) Z (0 : Int32) M4) Z (0 : Int32) M
set_option maxRecDepth 100000 in
theorem l_X12_starts_L4 {Γ : WC} {X : MX} (hN : HN Γ) (C : CX Γ X cX12_starts 4 RX12 (some .int) (rmL 0 0 0)) {rM : Int32 × Mem} (E : EndN Γ X (some (.int rM.1)) rM.2 0 0) {Z : Nat} {k : Mem → Option (Int32 × Mem)} (hk : ∀  (Mx : Mem), k Mx = some rM → G Γ X Mx 0 0 [some (.ref (wad Γ 108)), some (.int (0 : Int32))] [] 23) : ∀ (n : Nat) (x1 : Int32) (M2 : Mem), f_X12_starts_L4 Z k n x1 M2 = some rM → G Γ X M2 0 0 [some (.ref (wad Γ 108)), some (.int (0 : Int32)), some (.int x1)] [] 4 := by
  intro n
  induction n with
  | zero =>
    intro x1 M2 hf
    have hf0 : (none : Option _) = some rM := hf
    cases hf0
  | succ n ih =>
    intro x1 M2 hf
    rw [f_X12_starts_L4] at hf
    refine x_iload_n C rfl rfl (dkAt dk_X12_starts 4 rfl) 5 rfl ?_
    refine x_bipush C (v := (54 : Int32)) (by decide) (dkAt dk_X12_starts 5 rfl) 7 rfl ?_
    refine x_icmp_ge C 23 (dkAt dk_X12_starts 6 rfl) 10 rfl (by decide) hf (fun hf => ?_) (fun hf => ?_)
    · exact G.weak (L := [some (.ref (wad Γ 108)), some (.int (0 : Int32))]) ⟨rfl, rfl, trivial⟩ (hk _ hf)
    · refine x_aload_n C rfl rfl (dkAt dk_X12_starts 7 rfl) 11 rfl ?_
      refine x_getS C lk_RX12_7 (hN.sh sh108) (hN.sr sr108_2) (dkAt dk_X12_starts 8 rfl) 14 rfl ?_
      refine x_iload_n C rfl rfl (dkAt dk_X12_starts 9 rfl) 15 rfl ?_
      refine x_iconst C (v := (0 : Int32)) (by decide) (dkAt dk_X12_starts 10 rfl) 16 rfl ?_
      refine x_iast C (hN.sh sh109) (dkAt dk_X12_starts 11 rfl) 17 rfl hf (fun M3 hf => ?_)
      refine x_iinc C (v := (x1 + (1 : Int32))) (L1 := [some (.ref (wad Γ 108)), some (.int (0 : Int32)), some (.int (x1 + (1 : Int32)))]) (dkAt dk_X12_starts 12 rfl) 20 rfl rfl rfl (by decide) rfl ?_
      refine x_goto C 4 (dkAt dk_X12_starts 13 rfl) (by decide) ?_
      exact G.weak (L := [some (.ref (wad Γ 108)), some (.int (0 : Int32)), some (.int (x1 + (1 : Int32)))]) ⟨rfl, rfl, rfl, trivial⟩ (ih _ _ hf)
set_option maxRecDepth 100000 in
theorem l_X12_starts_L25 {Γ : WC} {X : MX} (hN : HN Γ) (C : CX Γ X cX12_starts 4 RX12 (some .int) (rmL 0 0 0)) {rM : Int32 × Mem} (E : EndN Γ X (some (.int rM.1)) rM.2 0 0) {Z : Nat} {k : Mem → Option (Int32 × Mem)} (hk : ∀  (Mx : Mem), k Mx = some rM → G Γ X Mx 0 0 [some (.ref (wad Γ 108)), some (.int (0 : Int32))] [] 67) : ∀ (n : Nat) (x5 : Int32) (M6 : Mem), f_X12_starts_L25 Z k n x5 M6 = some rM → G Γ X M6 0 0 [some (.ref (wad Γ 108)), some (.int (0 : Int32)), some (.int x5)] [] 25 := by
  intro n
  induction n with
  | zero =>
    intro x5 M6 hf
    have hf0 : (none : Option _) = some rM := hf
    cases hf0
  | succ n ih =>
    intro x5 M6 hf
    rw [f_X12_starts_L25] at hf
    refine x_iload_n C rfl rfl (dkAt dk_X12_starts 16 rfl) 26 rfl ?_
    refine x_iconst C (v := (3 : Int32)) (by decide) (dkAt dk_X12_starts 17 rfl) 27 rfl ?_
    refine x_icmp_ge C 67 (dkAt dk_X12_starts 18 rfl) 30 rfl (by decide) hf (fun hf => ?_) (fun hf => ?_)
    · exact G.weak (L := [some (.ref (wad Γ 108)), some (.int (0 : Int32))]) ⟨rfl, rfl, trivial⟩ (hk _ hf)
    · refine x_aload_n C rfl rfl (dkAt dk_X12_starts 19 rfl) 31 rfl ?_
      refine x_getS C lk_RX12_7 (hN.sh sh108) (hN.sr sr108_2) (dkAt dk_X12_starts 20 rfl) 34 rfl ?_
      refine x_iload_n C rfl rfl (dkAt dk_X12_starts 21 rfl) 35 rfl ?_
      refine x_aload_n C rfl rfl (dkAt dk_X12_starts 22 rfl) 36 rfl ?_
      refine x_getS C lk_RX12_20 (hN.sh sh108) (hN.sr sr108_6) (dkAt dk_X12_starts 23 rfl) 39 rfl ?_
      refine x_iconst C (v := (2 : Int32)) (by decide) (dkAt dk_X12_starts 24 rfl) 40 rfl ?_
      refine x_iload_n C rfl rfl (dkAt dk_X12_starts 25 rfl) 41 rfl ?_
      refine x_iadd C (dkAt dk_X12_starts 26 rfl) 42 rfl ?_
      refine x_iald C (hN.sh sh112) (dkAt dk_X12_starts 27 rfl) 43 rfl hf (fun v7 hf => ?_)
      refine x_iast C (hN.sh sh109) (dkAt dk_X12_starts 28 rfl) 44 rfl hf (fun M8 hf => ?_)
      refine x_aload_n C rfl rfl (dkAt dk_X12_starts 29 rfl) 45 rfl ?_
      refine x_getS C lk_RX12_7 (hN.sh sh108) (hN.sr sr108_2) (dkAt dk_X12_starts 30 rfl) 48 rfl ?_
      refine x_bipush C (v := (40 : Int32)) (by decide) (dkAt dk_X12_starts 31 rfl) 50 rfl ?_
      refine x_iload_n C rfl rfl (dkAt dk_X12_starts 32 rfl) 51 rfl ?_
      refine x_iadd C (dkAt dk_X12_starts 33 rfl) 52 rfl ?_
      refine x_aload_n C rfl rfl (dkAt dk_X12_starts 34 rfl) 53 rfl ?_
      refine x_getS C lk_RX12_20 (hN.sh sh108) (hN.sr sr108_6) (dkAt dk_X12_starts 35 rfl) 56 rfl ?_
      refine x_iconst C (v := (5 : Int32)) (by decide) (dkAt dk_X12_starts 36 rfl) 57 rfl ?_
      refine x_iload_n C rfl rfl (dkAt dk_X12_starts 37 rfl) 58 rfl ?_
      refine x_iadd C (dkAt dk_X12_starts 38 rfl) 59 rfl ?_
      refine x_iald C (hN.sh sh112) (dkAt dk_X12_starts 39 rfl) 60 rfl hf (fun v9 hf => ?_)
      refine x_iast C (hN.sh sh109) (dkAt dk_X12_starts 40 rfl) 61 rfl hf (fun M10 hf => ?_)
      refine x_iinc C (v := (x5 + (1 : Int32))) (L1 := [some (.ref (wad Γ 108)), some (.int (0 : Int32)), some (.int (x5 + (1 : Int32)))]) (dkAt dk_X12_starts 41 rfl) 64 rfl rfl rfl (by decide) rfl ?_
      refine x_goto C 25 (dkAt dk_X12_starts 42 rfl) (by decide) ?_
      exact G.weak (L := [some (.ref (wad Γ 108)), some (.int (0 : Int32)), some (.int (x5 + (1 : Int32)))]) ⟨rfl, rfl, rfl, trivial⟩ (ih _ _ hf)
set_option maxRecDepth 100000 in
theorem l_X12_starts_L100 {Γ : WC} {X : MX} (hN : HN Γ) (C : CX Γ X cX12_starts 4 RX12 (some .int) (rmL 0 0 0)) {rM : Int32 × Mem} (E : EndN Γ X (some (.int rM.1)) rM.2 0 0) {Z : Nat} {x13 : Int32} {x14 : Int32} {v17 : Int32} {k : Mem → Option (Int32 × Mem)} (hk : ∀  (Mx : Mem), k Mx = some rM → G Γ X Mx 0 0 [some (.ref (wad Γ 108)), some (.int (x13 + v17)), some (.int x14)] [] 186) : ∀ (n : Nat) (x18 : Int32) (M19 : Mem), f_X12_starts_L100 Z x13 x14 v17 k n x18 M19 = some rM → G Γ X M19 0 0 [some (.ref (wad Γ 108)), some (.int (x13 + v17)), some (.int x14), some (.int x18)] [] 100 := by
  intro n
  induction n with
  | zero =>
    intro x18 M19 hf
    have hf0 : (none : Option _) = some rM := hf
    cases hf0
  | succ n ih =>
    intro x18 M19 hf
    rw [f_X12_starts_L100] at hf
    refine x_iload_n C rfl rfl (dkAt dk_X12_starts 67 rfl) 101 rfl ?_
    refine x_aload_n C rfl rfl (dkAt dk_X12_starts 68 rfl) 102 rfl ?_
    refine x_getS C lk_RX12_20 (hN.sh sh108) (hN.sr sr108_6) (dkAt dk_X12_starts 69 rfl) 105 rfl ?_
    refine x_bipush C (v := (8 : Int32)) (by decide) (dkAt dk_X12_starts 70 rfl) 107 rfl ?_
    refine x_iload_n C rfl rfl (dkAt dk_X12_starts 71 rfl) 108 rfl ?_
    refine x_iadd C (dkAt dk_X12_starts 72 rfl) 109 rfl ?_
    refine x_iald C (hN.sh sh112) (dkAt dk_X12_starts 73 rfl) 110 rfl hf (fun v20 hf => ?_)
    refine x_icmp_ge C 186 (dkAt dk_X12_starts 74 rfl) 113 rfl (by decide) hf (fun hf => ?_) (fun hf => ?_)
    · exact G.weak (L := [some (.ref (wad Γ 108)), some (.int (x13 + v17)), some (.int x14)]) ⟨rfl, rfl, rfl, trivial⟩ (hk _ hf)
    · refine x_aload_n C rfl rfl (dkAt dk_X12_starts 75 rfl) 114 rfl ?_
      refine x_getS C lk_RX12_7 (hN.sh sh108) (hN.sr sr108_2) (dkAt dk_X12_starts 76 rfl) 117 rfl ?_
      refine x_iconst C (v := (4 : Int32)) (by decide) (dkAt dk_X12_starts 77 rfl) 118 rfl ?_
      refine x_iconst C (v := (3 : Int32)) (by decide) (dkAt dk_X12_starts 78 rfl) 119 rfl ?_
      refine x_iload_n C rfl rfl (dkAt dk_X12_starts 79 rfl) 120 rfl ?_
      refine x_imul C (dkAt dk_X12_starts 80 rfl) 121 rfl ?_
      refine x_iadd C (dkAt dk_X12_starts 81 rfl) 122 rfl ?_
      refine x_iload_n C rfl rfl (dkAt dk_X12_starts 82 rfl) 123 rfl ?_
      refine x_iadd C (dkAt dk_X12_starts 83 rfl) 124 rfl ?_
      refine x_aload_n C rfl rfl (dkAt dk_X12_starts 84 rfl) 125 rfl ?_
      refine x_getS C lk_RX12_20 (hN.sh sh108) (hN.sr sr108_6) (dkAt dk_X12_starts 85 rfl) 128 rfl ?_
      refine x_sipush C (v := (320 : Int32)) (by decide) (dkAt dk_X12_starts 86 rfl) 131 rfl ?_
      refine x_iload_n C rfl rfl (dkAt dk_X12_starts 87 rfl) 132 rfl ?_
      refine x_iadd C (dkAt dk_X12_starts 88 rfl) 133 rfl ?_
      refine x_iald C (hN.sh sh112) (dkAt dk_X12_starts 89 rfl) 134 rfl hf (fun v21 hf => ?_)
      refine x_iconst C (v := (1 : Int32)) (by decide) (dkAt dk_X12_starts 90 rfl) 135 rfl ?_
      refine x_join hf (fun t22 => G Γ X M19 0 0 [some (.ref (wad Γ 108)), some (.int (x13 + v17)), some (.int x14), some (.int x18)] [.int t22, .int (((4 : Int32) + ((3 : Int32) * x14)) + x18), .ref (wad Γ 109)] 165) (fun t22 hf => ?_) (fun j25 hj25 hf => ?_)
      · refine x_iast C (hN.sh sh109) (dkAt dk_X12_starts 108 rfl) 166 rfl hf (fun M23 hf => ?_)
        refine x_aload_n C rfl rfl (dkAt dk_X12_starts 109 rfl) 167 rfl ?_
        refine x_getS C lk_RX12_7 (hN.sh sh108) (hN.sr sr108_2) (dkAt dk_X12_starts 110 rfl) 170 rfl ?_
        refine x_bipush C (v := (22 : Int32)) (by decide) (dkAt dk_X12_starts 111 rfl) 172 rfl ?_
        refine x_iconst C (v := (3 : Int32)) (by decide) (dkAt dk_X12_starts 112 rfl) 173 rfl ?_
        refine x_iload_n C rfl rfl (dkAt dk_X12_starts 113 rfl) 174 rfl ?_
        refine x_imul C (dkAt dk_X12_starts 114 rfl) 175 rfl ?_
        refine x_iadd C (dkAt dk_X12_starts 115 rfl) 176 rfl ?_
        refine x_iload_n C rfl rfl (dkAt dk_X12_starts 116 rfl) 177 rfl ?_
        refine x_iadd C (dkAt dk_X12_starts 117 rfl) 178 rfl ?_
        refine x_iconst C (v := (1 : Int32)) (by decide) (dkAt dk_X12_starts 118 rfl) 179 rfl ?_
        refine x_iast C (hN.sh sh109) (dkAt dk_X12_starts 119 rfl) 180 rfl hf (fun M24 hf => ?_)
        refine x_iinc C (v := (x18 + (1 : Int32))) (L1 := [some (.ref (wad Γ 108)), some (.int (x13 + v17)), some (.int x14), some (.int (x18 + (1 : Int32)))]) (dkAt dk_X12_starts 120 rfl) 183 rfl rfl rfl (by decide) rfl ?_
        refine x_goto C 100 (dkAt dk_X12_starts 121 rfl) (by decide) ?_
        exact G.weak (L := [some (.ref (wad Γ 108)), some (.int (x13 + v17)), some (.int x14), some (.int (x18 + (1 : Int32)))]) ⟨rfl, rfl, rfl, rfl, trivial⟩ (ih _ _ hf)
      · refine x_icmp_ne C 155 (dkAt dk_X12_starts 91 rfl) 138 rfl (by decide) hf (fun hf => ?_) (fun hf => ?_)
        · refine x_iload_n C rfl rfl (dkAt dk_X12_starts 103 rfl) 156 rfl ?_
          refine x_if_ne C 164 (dkAt dk_X12_starts 104 rfl) 159 rfl (by decide) hf (fun hf => ?_) (fun hf => ?_)
          · refine x_iconst C (v := (0 : Int32)) (by decide) (dkAt dk_X12_starts 107 rfl) 165 rfl ?_
            exact G.weak (L := [some (.ref (wad Γ 108)), some (.int (x13 + v17)), some (.int x14), some (.int x18)]) ⟨rfl, rfl, rfl, rfl, trivial⟩ (hj25 _ hf)
          · refine x_bipush C (v := (10 : Int32)) (by decide) (dkAt dk_X12_starts 105 rfl) 161 rfl ?_
            refine x_goto C 165 (dkAt dk_X12_starts 106 rfl) (by decide) ?_
            exact G.weak (L := [some (.ref (wad Γ 108)), some (.int (x13 + v17)), some (.int x14), some (.int x18)]) ⟨rfl, rfl, rfl, rfl, trivial⟩ (hj25 _ hf)
        · refine x_aload_n C rfl rfl (dkAt dk_X12_starts 92 rfl) 139 rfl ?_
          refine x_getS C lk_RX12_20 (hN.sh sh108) (hN.sr sr108_6) (dkAt dk_X12_starts 93 rfl) 142 rfl ?_
          refine x_sipush C (v := (326 : Int32)) (by decide) (dkAt dk_X12_starts 94 rfl) 145 rfl ?_
          refine x_iconst C (v := (3 : Int32)) (by decide) (dkAt dk_X12_starts 95 rfl) 146 rfl ?_
          refine x_iload_n C rfl rfl (dkAt dk_X12_starts 96 rfl) 147 rfl ?_
          refine x_imul C (dkAt dk_X12_starts 97 rfl) 148 rfl ?_
          refine x_iadd C (dkAt dk_X12_starts 98 rfl) 149 rfl ?_
          refine x_iload_n C rfl rfl (dkAt dk_X12_starts 99 rfl) 150 rfl ?_
          refine x_iadd C (dkAt dk_X12_starts 100 rfl) 151 rfl ?_
          refine x_iald C (hN.sh sh112) (dkAt dk_X12_starts 101 rfl) 152 rfl hf (fun v26 hf => ?_)
          refine x_goto C 165 (dkAt dk_X12_starts 102 rfl) (by decide) ?_
          exact G.weak (L := [some (.ref (wad Γ 108)), some (.int (x13 + v17)), some (.int x14), some (.int x18)]) ⟨rfl, rfl, rfl, rfl, trivial⟩ (hj25 _ hf)
set_option maxRecDepth 100000 in
theorem l_X12_starts_L76 {Γ : WC} {X : MX} (hN : HN Γ) (C : CX Γ X cX12_starts 4 RX12 (some .int) (rmL 0 0 0)) {rM : Int32 × Mem} (E : EndN Γ X (some (.int rM.1)) rM.2 0 0) {Z : Nat} : ∀ (n : Nat) (x13 : Int32) (x14 : Int32) (M15 : Mem), f_X12_starts_L76 Z n x13 x14 M15 = some rM → G Γ X M15 0 0 [some (.ref (wad Γ 108)), some (.int x13), some (.int x14)] [] 76 := by
  intro n
  induction n with
  | zero =>
    intro x13 x14 M15 hf
    have hf0 : (none : Option _) = some rM := hf
    cases hf0
  | succ n ih =>
    intro x13 x14 M15 hf
    rw [f_X12_starts_L76] at hf
    refine x_iload_n C rfl rfl (dkAt dk_X12_starts 50 rfl) 77 rfl ?_
    refine x_aload_n C rfl rfl (dkAt dk_X12_starts 51 rfl) 78 rfl ?_
    refine x_getS C lk_RX12_20 (hN.sh sh108) (hN.sr sr108_6) (dkAt dk_X12_starts 52 rfl) 81 rfl ?_
    refine x_iconst C (v := (0 : Int32)) (by decide) (dkAt dk_X12_starts 53 rfl) 82 rfl ?_
    refine x_iald C (hN.sh sh112) (dkAt dk_X12_starts 54 rfl) 83 rfl hf (fun v16 hf => ?_)
    refine x_icmp_ge C 192 (dkAt dk_X12_starts 55 rfl) 86 rfl (by decide) hf (fun hf => ?_) (fun hf => ?_)
    · refine x_iload_n C rfl rfl (dkAt dk_X12_starts 124 rfl) 193 rfl ?_
      exact x_iret C E hf (by decide) (by decide) (dkAt dk_X12_starts 125 rfl)
    · refine x_iload_n C rfl rfl (dkAt dk_X12_starts 56 rfl) 87 rfl ?_
      refine x_aload_n C rfl rfl (dkAt dk_X12_starts 57 rfl) 88 rfl ?_
      refine x_getS C lk_RX12_20 (hN.sh sh108) (hN.sr sr108_6) (dkAt dk_X12_starts 58 rfl) 91 rfl ?_
      refine x_bipush C (v := (8 : Int32)) (by decide) (dkAt dk_X12_starts 59 rfl) 93 rfl ?_
      refine x_iload_n C rfl rfl (dkAt dk_X12_starts 60 rfl) 94 rfl ?_
      refine x_iadd C (dkAt dk_X12_starts 61 rfl) 95 rfl ?_
      refine x_iald C (hN.sh sh112) (dkAt dk_X12_starts 62 rfl) 96 rfl hf (fun v17 hf => ?_)
      refine x_iadd C (dkAt dk_X12_starts 63 rfl) 97 rfl ?_
      refine x_istore_n C (L1 := [some (.ref (wad Γ 108)), some (.int (x13 + v17)), some (.int x14)]) (dkAt dk_X12_starts 64 rfl) 98 rfl rfl (by decide) rfl ?_
      refine x_iconst C (v := (0 : Int32)) (by decide) (dkAt dk_X12_starts 65 rfl) 99 rfl ?_
      refine x_istore_n C (L1 := [some (.ref (wad Γ 108)), some (.int (x13 + v17)), some (.int x14), some (.int (0 : Int32))]) (dkAt dk_X12_starts 66 rfl) 100 rfl rfl (by decide) rfl ?_
      refine G.weak (L := [some (.ref (wad Γ 108)), some (.int (x13 + v17)), some (.int x14), some (.int (0 : Int32))]) ⟨rfl, rfl, rfl, rfl, trivial⟩ ?_
      refine l_X12_starts_L100 hN C E ?_ Z _ _ hf
      intro M27 hf
      refine x_iinc C (v := (x14 + (1 : Int32))) (L1 := [some (.ref (wad Γ 108)), some (.int (x13 + v17)), some (.int (x14 + (1 : Int32)))]) (dkAt dk_X12_starts 122 rfl) 189 rfl rfl rfl (by decide) rfl ?_
      refine x_goto C 76 (dkAt dk_X12_starts 123 rfl) (by decide) ?_
      exact G.weak (L := [some (.ref (wad Γ 108)), some (.int (x13 + v17)), some (.int (x14 + (1 : Int32)))]) ⟨rfl, rfl, rfl, trivial⟩ (ih _ _ _ hf)
set_option maxRecDepth 100000 in
theorem c_X12_starts {Γ : WC} (hN : HN Γ) {Z : Nat} {M : Mem}  {rM : Int32 × Mem}  (hf : f_X12_starts Z M  = some rM) : Ct Γ yX12_starts cX12_starts 4 (some .int) (rmL 0 0 0) [.ref (wad Γ 108)] M (some (.int rM.1)) rM.2 := by
  refine mkN hN.1 (own := RX12) rfl (by decide) (Nat.le_of_ble_eq_true rfl) (fun X C E => ?_)
  change G Γ X M 0 0 [some (.ref (wad Γ 108))] [] 0
  unfold f_X12_starts at hf
  refine x_iconst C (v := (0 : Int32)) (by decide) (dkAt dk_X12_starts 0 rfl) 1 rfl ?_
  refine x_istore_n C (L1 := [some (.ref (wad Γ 108)), some (.int (0 : Int32))]) (dkAt dk_X12_starts 1 rfl) 2 rfl rfl (by decide) rfl ?_
  refine x_iconst C (v := (0 : Int32)) (by decide) (dkAt dk_X12_starts 2 rfl) 3 rfl ?_
  refine x_istore_n C (L1 := [some (.ref (wad Γ 108)), some (.int (0 : Int32)), some (.int (0 : Int32))]) (dkAt dk_X12_starts 3 rfl) 4 rfl rfl (by decide) rfl ?_
  refine G.weak (L := [some (.ref (wad Γ 108)), some (.int (0 : Int32)), some (.int (0 : Int32))]) ⟨rfl, rfl, rfl, trivial⟩ ?_
  refine l_X12_starts_L4 hN C E ?_ Z _ _ hf
  intro M4 hf
  refine x_iconst C (v := (0 : Int32)) (by decide) (dkAt dk_X12_starts 14 rfl) 24 rfl ?_
  refine x_istore_n C (L1 := [some (.ref (wad Γ 108)), some (.int (0 : Int32)), some (.int (0 : Int32))]) (dkAt dk_X12_starts 15 rfl) 25 rfl rfl (by decide) rfl ?_
  refine G.weak (L := [some (.ref (wad Γ 108)), some (.int (0 : Int32)), some (.int (0 : Int32))]) ⟨rfl, rfl, rfl, trivial⟩ ?_
  refine l_X12_starts_L25 hN C E ?_ Z _ _ hf
  intro M11 hf
  refine x_aload_n C rfl rfl (dkAt dk_X12_starts 43 rfl) 68 rfl ?_
  refine x_getS C lk_RX12_7 (hN.sh sh108) (hN.sr sr108_2) (dkAt dk_X12_starts 44 rfl) 71 rfl ?_
  refine x_iconst C (v := (3 : Int32)) (by decide) (dkAt dk_X12_starts 45 rfl) 72 rfl ?_
  refine x_iconst C (v := (-1 : Int32)) (by decide) (dkAt dk_X12_starts 46 rfl) 73 rfl ?_
  refine x_iast C (hN.sh sh109) (dkAt dk_X12_starts 47 rfl) 74 rfl hf (fun M12 hf => ?_)
  refine x_iconst C (v := (0 : Int32)) (by decide) (dkAt dk_X12_starts 48 rfl) 75 rfl ?_
  refine x_istore_n C (L1 := [some (.ref (wad Γ 108)), some (.int (0 : Int32)), some (.int (0 : Int32))]) (dkAt dk_X12_starts 49 rfl) 76 rfl rfl (by decide) rfl ?_
  refine G.weak (L := [some (.ref (wad Γ 108)), some (.int (0 : Int32)), some (.int (0 : Int32))]) ⟨rfl, rfl, rfl, trivial⟩ ?_
  refine l_X12_starts_L76 hN C E Z _ _ _ hf
def f_X12_load_L100 (Z : Nat) (k : Mem → Option (Int32 × Mem)) : Nat → Int32 → Mem → Option (Int32 × Mem)
  | 0, _, _ => none
  | n + 1, x21, M22 => (if (344 : Int32) ≤ x21 then k M22 else rdI M22 113 344 x21 (fun v23 => wrI M22 112 344 x21 v23 (fun M24 => f_X12_load_L100 Z k n (x21 + (1 : Int32)) M24)))
def f_X12_load (Z : Nat) (M : Mem) (p0 : Int32) : Option (Int32 × Mem) :=
  bd (sI M (108) 0 (0 : Int32)) (fun M1 => bd (gI M1 (108) 9) (fun v2 => cl (f_X12_in Z M1 p0.toInt64 (0 : Int64) v2.toInt64) (fun v3 M4 => jn (fun (t5 : Int32) => cl (f_X12_refuse Z M4 t5 (1 : Int32)) (fun v6 M7 => (if v6 = 0 then bd (sI M7 (108) 9 (0 : Int32)) (fun M8 => cl (f_X12_reads Z M8 p0) (fun v9 M10 => bd (gI M10 (108) 19) (fun v11 => bd (sI M10 (108) 10 v11) (fun M12 => bd (gI M12 (108) 19) (fun v13 => jn (fun (t14 : Int32) => bd (sI M12 (108) 11 t14) (fun M15 => bd (gI M15 (108) 19) (fun v16 => jn (fun (t17 : Int32) => cl (f_X12_refuse Z M15 t17 (2 : Int32)) (fun v18 M19 => (if v18 = 0 then bd (sI M19 (108) 1 (1 : Int32)) (fun M20 => f_X12_load_L100 Z (fun (M25 : Mem) => bd (sI M25 (108) 4 (0 : Int32)) (fun M26 => wrZ M26 111 2 (0 : Int32) (0 : Int32) (fun M27 => wrZ M27 111 2 (1 : Int32) (0 : Int32) (fun M28 => cl (f_X12_starts Z M28) (fun v29 M30 => some (v29, M30)))))) Z (0 : Int32) M20) else some ((0 : Int32), M19)))) (fun j33 => (if v16 = 0 then j33 (0 : Int32) else j33 (1 : Int32)))))) (fun j34 => (if v13 = 0 then j34 (-1 : Int32) else bd (gI M12 (108) 20) (fun v35 => j34 v35)))))))) else some ((0 : Int32), M7)))) (fun j38 => (if v3 = 0 then j38 (1 : Int32) else j38 (0 : Int32))))))
set_option maxRecDepth 100000 in
theorem l_X12_load_L100 {Γ : WC} {X : MX} (hN : HN Γ) (C : CX Γ X cX12_load 3 RX12 (some .int) (rmL 11 0 0)) {rM : Int32 × Mem} (E : EndN Γ X (some (.int rM.1)) rM.2 0 0) {Z : Nat} {k : Mem → Option (Int32 × Mem)} (hk : ∀  (Mx : Mem), k Mx = some rM → G Γ X Mx 0 0 [some (.ref (wad Γ 108))] [] 125) : ∀ (n : Nat) (x21 : Int32) (M22 : Mem), f_X12_load_L100 Z k n x21 M22 = some rM → G Γ X M22 0 0 [some (.ref (wad Γ 108)), none, some (.int x21)] [] 100 := by
  intro n
  induction n with
  | zero =>
    intro x21 M22 hf
    have hf0 : (none : Option _) = some rM := hf
    cases hf0
  | succ n ih =>
    intro x21 M22 hf
    rw [f_X12_load_L100] at hf
    refine x_iload_n C rfl rfl (dkAt dk_X12_load 56 rfl) 101 rfl ?_
    refine x_sipush C (v := (344 : Int32)) (by decide) (dkAt dk_X12_load 57 rfl) 104 rfl ?_
    refine x_icmp_ge C 125 (dkAt dk_X12_load 58 rfl) 107 rfl (by decide) hf (fun hf => ?_) (fun hf => ?_)
    · exact G.weak (L := [some (.ref (wad Γ 108))]) ⟨rfl, trivial⟩ (hk _ hf)
    · refine x_aload_n C rfl rfl (dkAt dk_X12_load 59 rfl) 108 rfl ?_
      refine x_getS C lk_RX12_20 (hN.sh sh108) (hN.sr sr108_6) (dkAt dk_X12_load 60 rfl) 111 rfl ?_
      refine x_iload_n C rfl rfl (dkAt dk_X12_load 61 rfl) 112 rfl ?_
      refine x_aload_n C rfl rfl (dkAt dk_X12_load 62 rfl) 113 rfl ?_
      refine x_getS C lk_RX12_23 (hN.sh sh108) (hN.sr sr108_7) (dkAt dk_X12_load 63 rfl) 116 rfl ?_
      refine x_iload_n C rfl rfl (dkAt dk_X12_load 64 rfl) 117 rfl ?_
      refine x_iald C (hN.sh sh113) (dkAt dk_X12_load 65 rfl) 118 rfl hf (fun v23 hf => ?_)
      refine x_iast C (hN.sh sh112) (dkAt dk_X12_load 66 rfl) 119 rfl hf (fun M24 hf => ?_)
      refine x_iinc C (v := (x21 + (1 : Int32))) (L1 := [some (.ref (wad Γ 108)), none, some (.int (x21 + (1 : Int32)))]) (dkAt dk_X12_load 67 rfl) 122 rfl rfl rfl (by decide) rfl ?_
      refine x_goto C 100 (dkAt dk_X12_load 68 rfl) (by decide) ?_
      exact G.weak (L := [some (.ref (wad Γ 108)), none, some (.int (x21 + (1 : Int32)))]) ⟨rfl, rfl, trivial⟩ (ih _ _ hf)
set_option maxRecDepth 100000 in
theorem c_X12_load {Γ : WC} (hN : HN Γ) {Z : Nat} {M : Mem} {p0 : Int32} {rM : Int32 × Mem}  (hf : f_X12_load Z M p0 = some rM) : Ct Γ yX12_load cX12_load 3 (some .int) (rmL 11 0 0) [.ref (wad Γ 108), .int p0] M (some (.int rM.1)) rM.2 := by
  refine mkN hN.1 (own := RX12) rfl (by decide) (Nat.le_of_ble_eq_true rfl) (fun X C E => ?_)
  change G Γ X M 0 0 [some (.ref (wad Γ 108)), some (.int p0)] [] 0
  unfold f_X12_load at hf
  refine x_aload_n C rfl rfl (dkAt dk_X12_load 0 rfl) 1 rfl ?_
  refine x_iconst C (v := (0 : Int32)) (by decide) (dkAt dk_X12_load 1 rfl) 2 rfl ?_
  refine x_putI C pk_RX12_61 ⟨_, rfl⟩ (hN.sh sh108) (dkAt dk_X12_load 2 rfl) 5 rfl hf (fun M1 hf => ?_)
  refine x_aload_n C rfl rfl (dkAt dk_X12_load 3 rfl) 6 rfl ?_
  refine x_iload_n C rfl rfl (dkAt dk_X12_load 4 rfl) 7 rfl ?_
  refine x_i2l C (dkAt dk_X12_load 5 rfl) 8 rfl ?_
  refine x_lconst C (v := (0 : Int64)) (by decide) (dkAt dk_X12_load 6 rfl) 9 rfl ?_
  refine x_aload_n C rfl rfl (dkAt dk_X12_load 7 rfl) 10 rfl ?_
  refine x_getI C lk_RX12_72 (hN.sh sh108) (dkAt dk_X12_load 8 rfl) 13 rfl hf (fun v2 hf => ?_)
  refine x_i2l C (dkAt dk_X12_load 9 rfl) 14 rfl ?_
  obtain ⟨v3, M4, h39, hf⟩ := cl_inv hf
  refine x_cSi C (c_X12_in hN h39) mw_X12_in ln_RX12_137 ms_X12_in (ro_of (by decide) (by decide) (by decide) (by decide)) rfl rfl (Nat.le_of_ble_eq_true rfl) (dkAt dk_X12_load 10 rfl) 17 rfl 0 0 rfl rfl ?_
  refine x_join hf (fun t5 => G Γ X M4 0 0 [some (.ref (wad Γ 108)), some (.int p0)] [.int t5, .ref (wad Γ 108)] 25) (fun t5 hf => ?_) (fun j38 hj38 hf => ?_)
  · refine x_iconst C (v := (1 : Int32)) (by decide) (dkAt dk_X12_load 15 rfl) 26 rfl ?_
    obtain ⟨v6, M7, h37, hf⟩ := cl_inv hf
    refine x_cVi C (c_X12_refuse hN h37) mw_X12_refuse ln_RX12_68 mi_X12_refuse (hN.rc (ci := 12) sh108 rc12) (ro_of (by decide) (by decide) (by decide) (by decide)) rfl rfl (Nat.le_of_ble_eq_true rfl) (dkAt dk_X12_load 16 rfl) 29 rfl 0 0 rfl rfl ?_
    refine x_if_eq C 34 (dkAt dk_X12_load 17 rfl) 32 rfl (by decide) hf (fun hf => ?_) (fun hf => ?_)
    · refine x_aload_n C rfl rfl (dkAt dk_X12_load 20 rfl) 35 rfl ?_
      refine x_iconst C (v := (0 : Int32)) (by decide) (dkAt dk_X12_load 21 rfl) 36 rfl ?_
      refine x_putI C pk_RX12_72 ⟨_, rfl⟩ (hN.sh sh108) (dkAt dk_X12_load 22 rfl) 39 rfl hf (fun M8 hf => ?_)
      refine x_aload_n C rfl rfl (dkAt dk_X12_load 23 rfl) 40 rfl ?_
      refine x_iload_n C rfl rfl (dkAt dk_X12_load 24 rfl) 41 rfl ?_
      obtain ⟨v9, M10, h36, hf⟩ := cl_inv hf
      refine x_cVv C (c_X12_reads hN h36) mw_X12_reads ln_RX12_210 mi_X12_reads (hN.rc (ci := 12) sh108 rc12) (ro_of (by decide) (by decide) (by decide) (by decide)) rfl rfl (Nat.le_of_ble_eq_true rfl) (dkAt dk_X12_load 25 rfl) 44 rfl 0 0 rfl rfl ?_
      refine x_aload_n C rfl rfl (dkAt dk_X12_load 26 rfl) 45 rfl ?_
      refine x_aload_n C rfl rfl (dkAt dk_X12_load 27 rfl) 46 rfl ?_
      refine x_getI C lk_RX12_107 (hN.sh sh108) (dkAt dk_X12_load 28 rfl) 49 rfl hf (fun v11 hf => ?_)
      refine x_putI C pk_RX12_75 ⟨_, rfl⟩ (hN.sh sh108) (dkAt dk_X12_load 29 rfl) 52 rfl hf (fun M12 hf => ?_)
      refine x_aload_n C rfl rfl (dkAt dk_X12_load 30 rfl) 53 rfl ?_
      refine x_aload_n C rfl rfl (dkAt dk_X12_load 31 rfl) 54 rfl ?_
      refine x_getI C lk_RX12_107 (hN.sh sh108) (dkAt dk_X12_load 32 rfl) 57 rfl hf (fun v13 hf => ?_)
      refine x_join hf (fun t14 => G Γ X M12 0 0 [some (.ref (wad Γ 108))] [.int t14, .ref (wad Γ 108)] 68) (fun t14 hf => ?_) (fun j34 hj34 hf => ?_)
      · refine x_putI C pk_RX12_29 ⟨_, rfl⟩ (hN.sh sh108) (dkAt dk_X12_load 38 rfl) 71 rfl hf (fun M15 hf => ?_)
        refine x_aload_n C rfl rfl (dkAt dk_X12_load 39 rfl) 72 rfl ?_
        refine x_aload_n C rfl rfl (dkAt dk_X12_load 40 rfl) 73 rfl ?_
        refine x_getI C lk_RX12_107 (hN.sh sh108) (dkAt dk_X12_load 41 rfl) 76 rfl hf (fun v16 hf => ?_)
        refine x_join hf (fun t17 => G Γ X M15 0 0 [some (.ref (wad Γ 108))] [.int t17, .ref (wad Γ 108)] 84) (fun t17 hf => ?_) (fun j33 hj33 hf => ?_)
        · refine x_iconst C (v := (2 : Int32)) (by decide) (dkAt dk_X12_load 46 rfl) 85 rfl ?_
          obtain ⟨v18, M19, h32, hf⟩ := cl_inv hf
          refine x_cVi C (c_X12_refuse hN h32) mw_X12_refuse ln_RX12_68 mi_X12_refuse (hN.rc (ci := 12) sh108 rc12) (ro_of (by decide) (by decide) (by decide) (by decide)) rfl rfl (Nat.le_of_ble_eq_true rfl) (dkAt dk_X12_load 47 rfl) 88 rfl 0 0 rfl rfl ?_
          refine x_if_eq C 93 (dkAt dk_X12_load 48 rfl) 91 rfl (by decide) hf (fun hf => ?_) (fun hf => ?_)
          · refine x_aload_n C rfl rfl (dkAt dk_X12_load 51 rfl) 94 rfl ?_
            refine x_iconst C (v := (1 : Int32)) (by decide) (dkAt dk_X12_load 52 rfl) 95 rfl ?_
            refine x_putI C pk_RX12_64 (by decide) (hN.sh sh108) (dkAt dk_X12_load 53 rfl) 98 rfl hf (fun M20 hf => ?_)
            refine x_iconst C (v := (0 : Int32)) (by decide) (dkAt dk_X12_load 54 rfl) 99 rfl ?_
            refine x_istore_n C (L1 := [some (.ref (wad Γ 108)), none, some (.int (0 : Int32))]) (dkAt dk_X12_load 55 rfl) 100 rfl rfl (by decide) rfl ?_
            refine G.weak (L := [some (.ref (wad Γ 108)), none, some (.int (0 : Int32))]) ⟨rfl, rfl, trivial⟩ ?_
            refine l_X12_load_L100 hN C E ?_ Z _ _ hf
            intro M25 hf
            refine x_aload_n C rfl rfl (dkAt dk_X12_load 69 rfl) 126 rfl ?_
            refine x_iconst C (v := (0 : Int32)) (by decide) (dkAt dk_X12_load 70 rfl) 127 rfl ?_
            refine x_putI C pk_RX12_213 ⟨_, rfl⟩ (hN.sh sh108) (dkAt dk_X12_load 71 rfl) 130 rfl hf (fun M26 hf => ?_)
            refine x_aload_n C rfl rfl (dkAt dk_X12_load 72 rfl) 131 rfl ?_
            refine x_getS C lk_RX12_16 (hN.sh sh108) (hN.sr sr108_5) (dkAt dk_X12_load 73 rfl) 134 rfl ?_
            refine x_iconst C (v := (0 : Int32)) (by decide) (dkAt dk_X12_load 74 rfl) 135 rfl ?_
            refine x_iconst C (v := (0 : Int32)) (by decide) (dkAt dk_X12_load 75 rfl) 136 rfl ?_
            refine x_zast C (hN.sh sh111) (dkAt dk_X12_load 76 rfl) 137 rfl hf (fun M27 hf => ?_)
            refine x_aload_n C rfl rfl (dkAt dk_X12_load 77 rfl) 138 rfl ?_
            refine x_getS C lk_RX12_16 (hN.sh sh108) (hN.sr sr108_5) (dkAt dk_X12_load 78 rfl) 141 rfl ?_
            refine x_iconst C (v := (1 : Int32)) (by decide) (dkAt dk_X12_load 79 rfl) 142 rfl ?_
            refine x_iconst C (v := (0 : Int32)) (by decide) (dkAt dk_X12_load 80 rfl) 143 rfl ?_
            refine x_zast C (hN.sh sh111) (dkAt dk_X12_load 81 rfl) 144 rfl hf (fun M28 hf => ?_)
            refine x_aload_n C rfl rfl (dkAt dk_X12_load 82 rfl) 145 rfl ?_
            obtain ⟨v29, M30, h31, hf⟩ := cl_inv hf
            refine x_cVi C (c_X12_starts hN h31) mw_X12_starts ln_RX12_216 mi_X12_starts (hN.rc (ci := 12) sh108 rc12) (ro_of (by decide) (by decide) (by decide) (by decide)) rfl rfl (Nat.le_of_ble_eq_true rfl) (dkAt dk_X12_load 83 rfl) 148 rfl 0 0 rfl rfl ?_
            exact x_iret C E hf (by decide) (by decide) (dkAt dk_X12_load 84 rfl)
          · refine x_iconst C (v := (0 : Int32)) (by decide) (dkAt dk_X12_load 49 rfl) 92 rfl ?_
            exact x_iret C E hf (by decide) (by decide) (dkAt dk_X12_load 50 rfl)
        · refine x_if_eq C 83 (dkAt dk_X12_load 42 rfl) 79 rfl (by decide) hf (fun hf => ?_) (fun hf => ?_)
          · refine x_iconst C (v := (0 : Int32)) (by decide) (dkAt dk_X12_load 45 rfl) 84 rfl ?_
            exact G.weak (L := [some (.ref (wad Γ 108))]) ⟨rfl, trivial⟩ (hj33 _ hf)
          · refine x_iconst C (v := (1 : Int32)) (by decide) (dkAt dk_X12_load 43 rfl) 80 rfl ?_
            refine x_goto C 84 (dkAt dk_X12_load 44 rfl) (by decide) ?_
            exact G.weak (L := [some (.ref (wad Γ 108))]) ⟨rfl, trivial⟩ (hj33 _ hf)
      · refine x_if_ne C 64 (dkAt dk_X12_load 33 rfl) 60 rfl (by decide) hf (fun hf => ?_) (fun hf => ?_)
        · refine x_aload_n C rfl rfl (dkAt dk_X12_load 36 rfl) 65 rfl ?_
          refine x_getI C lk_RX12_110 (hN.sh sh108) (dkAt dk_X12_load 37 rfl) 68 rfl hf (fun v35 hf => ?_)
          exact G.weak (L := [some (.ref (wad Γ 108))]) ⟨rfl, trivial⟩ (hj34 _ hf)
        · refine x_iconst C (v := (-1 : Int32)) (by decide) (dkAt dk_X12_load 34 rfl) 61 rfl ?_
          refine x_goto C 68 (dkAt dk_X12_load 35 rfl) (by decide) ?_
          exact G.weak (L := [some (.ref (wad Γ 108))]) ⟨rfl, trivial⟩ (hj34 _ hf)
    · refine x_iconst C (v := (0 : Int32)) (by decide) (dkAt dk_X12_load 18 rfl) 33 rfl ?_
      exact x_iret C E hf (by decide) (by decide) (dkAt dk_X12_load 19 rfl)
  · refine x_if_ne C 24 (dkAt dk_X12_load 11 rfl) 20 rfl (by decide) hf (fun hf => ?_) (fun hf => ?_)
    · refine x_iconst C (v := (0 : Int32)) (by decide) (dkAt dk_X12_load 14 rfl) 25 rfl ?_
      exact G.weak (L := [some (.ref (wad Γ 108)), some (.int p0)]) ⟨rfl, rfl, trivial⟩ (hj38 _ hf)
    · refine x_iconst C (v := (1 : Int32)) (by decide) (dkAt dk_X12_load 12 rfl) 21 rfl ?_
      refine x_goto C 25 (dkAt dk_X12_load 13 rfl) (by decide) ?_
      exact G.weak (L := [some (.ref (wad Γ 108)), some (.int p0)]) ⟨rfl, rfl, trivial⟩ (hj38 _ hf)
def f_X12_told (Z : Nat) (M : Mem) (p0 : Int32) : Option (Int32 × Mem) :=
  bd (sI M (108) 0 (0 : Int32)) (fun M1 => bd (gI M1 (108) 1) (fun v2 => (if v2 = 0 then some ((0 : Int32), M1) else some (p0, M1))))
set_option maxRecDepth 100000 in
theorem c_X12_told {Γ : WC} (hN : HN Γ) {Z : Nat} {M : Mem} {p0 : Int32} {rM : Int32 × Mem}  (hf : f_X12_told Z M p0 = some rM) : Ct Γ yX12_told cX12_told 2 (some .int) (rmL 0 0 0) [.ref (wad Γ 108), .int p0] M (some (.int rM.1)) rM.2 := by
  refine mkN hN.1 (own := RX12) rfl (by decide) (Nat.le_of_ble_eq_true rfl) (fun X C E => ?_)
  change G Γ X M 0 0 [some (.ref (wad Γ 108)), some (.int p0)] [] 0
  unfold f_X12_told at hf
  refine x_aload_n C rfl rfl (dkAt dk_X12_told 0 rfl) 1 rfl ?_
  refine x_iconst C (v := (0 : Int32)) (by decide) (dkAt dk_X12_told 1 rfl) 2 rfl ?_
  refine x_putI C pk_RX12_61 ⟨_, rfl⟩ (hN.sh sh108) (dkAt dk_X12_told 2 rfl) 5 rfl hf (fun M1 hf => ?_)
  refine x_aload_n C rfl rfl (dkAt dk_X12_told 3 rfl) 6 rfl ?_
  refine x_getI C lk_RX12_64 (hN.sh sh108) (dkAt dk_X12_told 4 rfl) 9 rfl hf (fun v2 hf => ?_)
  refine x_if_eq C 16 (dkAt dk_X12_told 5 rfl) 12 rfl (by decide) hf (fun hf => ?_) (fun hf => ?_)
  · refine x_iconst C (v := (0 : Int32)) (by decide) (dkAt dk_X12_told 8 rfl) 17 rfl ?_
    exact x_iret C E hf (by decide) (by decide) (dkAt dk_X12_told 9 rfl)
  · refine x_iload_n C rfl rfl (dkAt dk_X12_told 6 rfl) 13 rfl ?_
    refine x_goto C 17 (dkAt dk_X12_told 7 rfl) (by decide) ?_
    exact x_iret C E hf (by decide) (by decide) (dkAt dk_X12_told 9 rfl)
def f_X12_isState (Z : Nat) (M : Mem) (p0 : Int32) : Option (Int32 × Mem) :=
  rdI M 112 344 (0 : Int32) (fun v1 => cl (f_X12_in Z M p0.toInt64 (0 : Int64) ((v1 - (1 : Int32)).toInt64)) (fun v2 M3 => (if v2 &&& 1 = v2 then some (v2, M3) else none)))
set_option maxRecDepth 100000 in
theorem c_X12_isState {Γ : WC} (hN : HN Γ) {Z : Nat} {M : Mem} {p0 : Int32} {rM : Int32 × Mem}  (hf : f_X12_isState Z M p0 = some rM) : Ct Γ yX12_isState cX12_isState 2 (some .boolean) (rmL 1 0 0) [.ref (wad Γ 108), .int p0] M (some (.int rM.1)) rM.2 := by
  refine mkN hN.1 (own := RX12) rfl (by decide) (Nat.le_of_ble_eq_true rfl) (fun X C E => ?_)
  change G Γ X M 0 0 [some (.ref (wad Γ 108)), some (.int p0)] [] 0
  unfold f_X12_isState at hf
  refine x_iload_n C rfl rfl (dkAt dk_X12_isState 0 rfl) 1 rfl ?_
  refine x_i2l C (dkAt dk_X12_isState 1 rfl) 2 rfl ?_
  refine x_lconst C (v := (0 : Int64)) (by decide) (dkAt dk_X12_isState 2 rfl) 3 rfl ?_
  refine x_aload_n C rfl rfl (dkAt dk_X12_isState 3 rfl) 4 rfl ?_
  refine x_getS C lk_RX12_20 (hN.sh sh108) (hN.sr sr108_6) (dkAt dk_X12_isState 4 rfl) 7 rfl ?_
  refine x_iconst C (v := (0 : Int32)) (by decide) (dkAt dk_X12_isState 5 rfl) 8 rfl ?_
  refine x_iald C (hN.sh sh112) (dkAt dk_X12_isState 6 rfl) 9 rfl hf (fun v1 hf => ?_)
  refine x_iconst C (v := (1 : Int32)) (by decide) (dkAt dk_X12_isState 7 rfl) 10 rfl ?_
  refine x_isub C (dkAt dk_X12_isState 8 rfl) 11 rfl ?_
  refine x_i2l C (dkAt dk_X12_isState 9 rfl) 12 rfl ?_
  obtain ⟨v2, M3, h4, hf⟩ := cl_inv hf
  refine x_cSi C (c_X12_in hN h4) mw_X12_in ln_RX12_137 ms_X12_in (ro_of (by decide) (by decide) (by decide) (by decide)) rfl rfl (Nat.le_of_ble_eq_true rfl) (dkAt dk_X12_isState 10 rfl) 15 rfl 0 0 rfl rfl ?_
  obtain ⟨hz, hf⟩ := if_some hf
  exact x_zret C E hz hf (by decide) (by decide) (dkAt dk_X12_isState 11 rfl)
def f_X12_isAction (Z : Nat) (M : Mem) (p0 : Int32) (p1 : Int32) : Option (Int32 × Mem) :=
  cl (f_X12_isState Z M p0) (fun v1 M2 => (if v1 = 0 then some ((0 : Int32), M2) else rdI M2 112 344 ((8 : Int32) + p0) (fun v3 => cl (f_X12_in Z M2 p1.toInt64 (0 : Int64) ((v3 - (1 : Int32)).toInt64)) (fun v4 M5 => (if v4 = 0 then some ((0 : Int32), M5) else some ((1 : Int32), M5))))))
set_option maxRecDepth 100000 in
theorem c_X12_isAction {Γ : WC} (hN : HN Γ) {Z : Nat} {M : Mem} {p0 : Int32} {p1 : Int32} {rM : Int32 × Mem}  (hf : f_X12_isAction Z M p0 p1 = some rM) : Ct Γ yX12_isAction cX12_isAction 3 (some .boolean) (rmL 2 0 0) [.ref (wad Γ 108), .int p0, .int p1] M (some (.int rM.1)) rM.2 := by
  refine mkN hN.1 (own := RX12) rfl (by decide) (Nat.le_of_ble_eq_true rfl) (fun X C E => ?_)
  change G Γ X M 0 0 [some (.ref (wad Γ 108)), some (.int p0), some (.int p1)] [] 0
  unfold f_X12_isAction at hf
  refine x_aload_n C rfl rfl (dkAt dk_X12_isAction 0 rfl) 1 rfl ?_
  refine x_iload_n C rfl rfl (dkAt dk_X12_isAction 1 rfl) 2 rfl ?_
  obtain ⟨v1, M2, h7, hf⟩ := cl_inv hf
  refine x_cVi C (c_X12_isState hN h7) mw_X12_isState ln_RX12_219 mi_X12_isState (hN.rc (ci := 12) sh108 rc12) (ro_of (by decide) (by decide) (by decide) (by decide)) rfl rfl (Nat.le_of_ble_eq_true rfl) (dkAt dk_X12_isAction 2 rfl) 5 rfl 0 0 rfl rfl ?_
  refine x_if_eq C 33 (dkAt dk_X12_isAction 3 rfl) 8 rfl (by decide) hf (fun hf => ?_) (fun hf => ?_)
  · refine x_iconst C (v := (0 : Int32)) (by decide) (dkAt dk_X12_isAction 20 rfl) 34 rfl ?_
    exact x_zret C E (by decide) hf (by decide) (by decide) (dkAt dk_X12_isAction 21 rfl)
  · refine x_iload_n C rfl rfl (dkAt dk_X12_isAction 4 rfl) 9 rfl ?_
    refine x_i2l C (dkAt dk_X12_isAction 5 rfl) 10 rfl ?_
    refine x_lconst C (v := (0 : Int64)) (by decide) (dkAt dk_X12_isAction 6 rfl) 11 rfl ?_
    refine x_aload_n C rfl rfl (dkAt dk_X12_isAction 7 rfl) 12 rfl ?_
    refine x_getS C lk_RX12_20 (hN.sh sh108) (hN.sr sr108_6) (dkAt dk_X12_isAction 8 rfl) 15 rfl ?_
    refine x_bipush C (v := (8 : Int32)) (by decide) (dkAt dk_X12_isAction 9 rfl) 17 rfl ?_
    refine x_iload_n C rfl rfl (dkAt dk_X12_isAction 10 rfl) 18 rfl ?_
    refine x_iadd C (dkAt dk_X12_isAction 11 rfl) 19 rfl ?_
    refine x_iald C (hN.sh sh112) (dkAt dk_X12_isAction 12 rfl) 20 rfl hf (fun v3 hf => ?_)
    refine x_iconst C (v := (1 : Int32)) (by decide) (dkAt dk_X12_isAction 13 rfl) 21 rfl ?_
    refine x_isub C (dkAt dk_X12_isAction 14 rfl) 22 rfl ?_
    refine x_i2l C (dkAt dk_X12_isAction 15 rfl) 23 rfl ?_
    obtain ⟨v4, M5, h6, hf⟩ := cl_inv hf
    refine x_cSi C (c_X12_in hN h6) mw_X12_in ln_RX12_137 ms_X12_in (ro_of (by decide) (by decide) (by decide) (by decide)) rfl rfl (Nat.le_of_ble_eq_true rfl) (dkAt dk_X12_isAction 16 rfl) 26 rfl 0 0 rfl rfl ?_
    refine x_if_eq C 33 (dkAt dk_X12_isAction 17 rfl) 29 rfl (by decide) hf (fun hf => ?_) (fun hf => ?_)
    · refine x_iconst C (v := (0 : Int32)) (by decide) (dkAt dk_X12_isAction 20 rfl) 34 rfl ?_
      exact x_zret C E (by decide) hf (by decide) (by decide) (dkAt dk_X12_isAction 21 rfl)
    · refine x_iconst C (v := (1 : Int32)) (by decide) (dkAt dk_X12_isAction 18 rfl) 30 rfl ?_
      refine x_goto C 34 (dkAt dk_X12_isAction 19 rfl) (by decide) ?_
      exact x_zret C E (by decide) hf (by decide) (by decide) (dkAt dk_X12_isAction 21 rfl)
def f_X12_isBudget (Z : Nat) (M : Mem) (p0 : Int32) : Option (Int32 × Mem) :=
  rdI M 112 344 (1 : Int32) (fun v1 => cl (f_X12_in Z M p0.toInt64 (0 : Int64) ((v1 - (1 : Int32)).toInt64)) (fun v2 M3 => (if v2 &&& 1 = v2 then some (v2, M3) else none)))
set_option maxRecDepth 100000 in
theorem c_X12_isBudget {Γ : WC} (hN : HN Γ) {Z : Nat} {M : Mem} {p0 : Int32} {rM : Int32 × Mem}  (hf : f_X12_isBudget Z M p0 = some rM) : Ct Γ yX12_isBudget cX12_isBudget 2 (some .boolean) (rmL 1 0 0) [.ref (wad Γ 108), .int p0] M (some (.int rM.1)) rM.2 := by
  refine mkN hN.1 (own := RX12) rfl (by decide) (Nat.le_of_ble_eq_true rfl) (fun X C E => ?_)
  change G Γ X M 0 0 [some (.ref (wad Γ 108)), some (.int p0)] [] 0
  unfold f_X12_isBudget at hf
  refine x_iload_n C rfl rfl (dkAt dk_X12_isBudget 0 rfl) 1 rfl ?_
  refine x_i2l C (dkAt dk_X12_isBudget 1 rfl) 2 rfl ?_
  refine x_lconst C (v := (0 : Int64)) (by decide) (dkAt dk_X12_isBudget 2 rfl) 3 rfl ?_
  refine x_aload_n C rfl rfl (dkAt dk_X12_isBudget 3 rfl) 4 rfl ?_
  refine x_getS C lk_RX12_20 (hN.sh sh108) (hN.sr sr108_6) (dkAt dk_X12_isBudget 4 rfl) 7 rfl ?_
  refine x_iconst C (v := (1 : Int32)) (by decide) (dkAt dk_X12_isBudget 5 rfl) 8 rfl ?_
  refine x_iald C (hN.sh sh112) (dkAt dk_X12_isBudget 6 rfl) 9 rfl hf (fun v1 hf => ?_)
  refine x_iconst C (v := (1 : Int32)) (by decide) (dkAt dk_X12_isBudget 7 rfl) 10 rfl ?_
  refine x_isub C (dkAt dk_X12_isBudget 8 rfl) 11 rfl ?_
  refine x_i2l C (dkAt dk_X12_isBudget 9 rfl) 12 rfl ?_
  obtain ⟨v2, M3, h4, hf⟩ := cl_inv hf
  refine x_cSi C (c_X12_in hN h4) mw_X12_in ln_RX12_137 ms_X12_in (ro_of (by decide) (by decide) (by decide) (by decide)) rfl rfl (Nat.le_of_ble_eq_true rfl) (dkAt dk_X12_isBudget 10 rfl) 15 rfl 0 0 rfl rfl ?_
  obtain ⟨hz, hf⟩ := if_some hf
  exact x_zret C E hz hf (by decide) (by decide) (dkAt dk_X12_isBudget 11 rfl)
def f_X12_noState (Z : Nat) (M : Mem) (p0 : Int32) : Option (Int32 × Mem) :=
  cl (f_X12_noChain Z M) (fun v1 M2 => (if v1 = 0 then cl (f_X12_isState Z M2 p0) (fun v3 M4 => jn (fun (t5 : Int32) => cl (f_X12_refuse Z M4 t5 (2 : Int32)) (fun v6 M7 => (if v6 = 0 then some ((0 : Int32), M7) else some ((1 : Int32), M7)))) (fun j9 => (if v3 = 0 then j9 (1 : Int32) else j9 (0 : Int32)))) else some ((1 : Int32), M2)))
set_option maxRecDepth 100000 in
theorem c_X12_noState {Γ : WC} (hN : HN Γ) {Z : Nat} {M : Mem} {p0 : Int32} {rM : Int32 × Mem}  (hf : f_X12_noState Z M p0 = some rM) : Ct Γ yX12_noState cX12_noState 2 (some .boolean) (rmL 2 0 0) [.ref (wad Γ 108), .int p0] M (some (.int rM.1)) rM.2 := by
  refine mkN hN.1 (own := RX12) rfl (by decide) (Nat.le_of_ble_eq_true rfl) (fun X C E => ?_)
  change G Γ X M 0 0 [some (.ref (wad Γ 108)), some (.int p0)] [] 0
  unfold f_X12_noState at hf
  refine x_aload_n C rfl rfl (dkAt dk_X12_noState 0 rfl) 1 rfl ?_
  obtain ⟨v1, M2, h11, hf⟩ := cl_inv hf
  refine x_cVi C (c_X12_noChain hN h11) mw_X12_noChain ln_RX12_222 mi_X12_noChain (hN.rc (ci := 12) sh108 rc12) (ro_of (by decide) (by decide) (by decide) (by decide)) rfl rfl (Nat.le_of_ble_eq_true rfl) (dkAt dk_X12_noState 1 rfl) 4 rfl 0 0 rfl rfl ?_
  refine x_if_ne C 28 (dkAt dk_X12_noState 2 rfl) 7 rfl (by decide) hf (fun hf => ?_) (fun hf => ?_)
  · refine x_iconst C (v := (1 : Int32)) (by decide) (dkAt dk_X12_noState 14 rfl) 29 rfl ?_
    refine x_goto C 33 (dkAt dk_X12_noState 15 rfl) (by decide) ?_
    exact x_zret C E (by decide) hf (by decide) (by decide) (dkAt dk_X12_noState 17 rfl)
  · refine x_aload_n C rfl rfl (dkAt dk_X12_noState 3 rfl) 8 rfl ?_
    refine x_aload_n C rfl rfl (dkAt dk_X12_noState 4 rfl) 9 rfl ?_
    refine x_iload_n C rfl rfl (dkAt dk_X12_noState 5 rfl) 10 rfl ?_
    obtain ⟨v3, M4, h10, hf⟩ := cl_inv hf
    refine x_cVi C (c_X12_isState hN h10) mw_X12_isState ln_RX12_219 mi_X12_isState (hN.rc (ci := 12) sh108 rc12) (ro_of (by decide) (by decide) (by decide) (by decide)) rfl rfl (Nat.le_of_ble_eq_true rfl) (dkAt dk_X12_noState 6 rfl) 13 rfl 0 0 rfl rfl ?_
    refine x_join hf (fun t5 => G Γ X M4 0 0 [] [.int t5, .ref (wad Γ 108)] 21) (fun t5 hf => ?_) (fun j9 hj9 hf => ?_)
    · refine x_iconst C (v := (2 : Int32)) (by decide) (dkAt dk_X12_noState 11 rfl) 22 rfl ?_
      obtain ⟨v6, M7, h8, hf⟩ := cl_inv hf
      refine x_cVi C (c_X12_refuse hN h8) mw_X12_refuse ln_RX12_68 mi_X12_refuse (hN.rc (ci := 12) sh108 rc12) (ro_of (by decide) (by decide) (by decide) (by decide)) rfl rfl (Nat.le_of_ble_eq_true rfl) (dkAt dk_X12_noState 12 rfl) 25 rfl 0 0 rfl rfl ?_
      refine x_if_eq C 32 (dkAt dk_X12_noState 13 rfl) 28 rfl (by decide) hf (fun hf => ?_) (fun hf => ?_)
      · refine x_iconst C (v := (0 : Int32)) (by decide) (dkAt dk_X12_noState 16 rfl) 33 rfl ?_
        exact x_zret C E (by decide) hf (by decide) (by decide) (dkAt dk_X12_noState 17 rfl)
      · refine x_iconst C (v := (1 : Int32)) (by decide) (dkAt dk_X12_noState 14 rfl) 29 rfl ?_
        refine x_goto C 33 (dkAt dk_X12_noState 15 rfl) (by decide) ?_
        exact x_zret C E (by decide) hf (by decide) (by decide) (dkAt dk_X12_noState 17 rfl)
    · refine x_if_ne C 20 (dkAt dk_X12_noState 7 rfl) 16 rfl (by decide) hf (fun hf => ?_) (fun hf => ?_)
      · refine x_iconst C (v := (0 : Int32)) (by decide) (dkAt dk_X12_noState 10 rfl) 21 rfl ?_
        exact G.weak (L := []) trivial (hj9 _ hf)
      · refine x_iconst C (v := (1 : Int32)) (by decide) (dkAt dk_X12_noState 8 rfl) 17 rfl ?_
        refine x_goto C 21 (dkAt dk_X12_noState 9 rfl) (by decide) ?_
        exact G.weak (L := []) trivial (hj9 _ hf)
def f_X12_noAction (Z : Nat) (M : Mem) (p0 : Int32) (p1 : Int32) : Option (Int32 × Mem) :=
  cl (f_X12_noChain Z M) (fun v1 M2 => (if v1 = 0 then cl (f_X12_isAction Z M2 p0 p1) (fun v3 M4 => jn (fun (t5 : Int32) => cl (f_X12_refuse Z M4 t5 (2 : Int32)) (fun v6 M7 => (if v6 = 0 then some ((0 : Int32), M7) else some ((1 : Int32), M7)))) (fun j9 => (if v3 = 0 then j9 (1 : Int32) else j9 (0 : Int32)))) else some ((1 : Int32), M2)))
set_option maxRecDepth 100000 in
theorem c_X12_noAction {Γ : WC} (hN : HN Γ) {Z : Nat} {M : Mem} {p0 : Int32} {p1 : Int32} {rM : Int32 × Mem}  (hf : f_X12_noAction Z M p0 p1 = some rM) : Ct Γ yX12_noAction cX12_noAction 3 (some .boolean) (rmL 3 0 0) [.ref (wad Γ 108), .int p0, .int p1] M (some (.int rM.1)) rM.2 := by
  refine mkN hN.1 (own := RX12) rfl (by decide) (Nat.le_of_ble_eq_true rfl) (fun X C E => ?_)
  change G Γ X M 0 0 [some (.ref (wad Γ 108)), some (.int p0), some (.int p1)] [] 0
  unfold f_X12_noAction at hf
  refine x_aload_n C rfl rfl (dkAt dk_X12_noAction 0 rfl) 1 rfl ?_
  obtain ⟨v1, M2, h11, hf⟩ := cl_inv hf
  refine x_cVi C (c_X12_noChain hN h11) mw_X12_noChain ln_RX12_222 mi_X12_noChain (hN.rc (ci := 12) sh108 rc12) (ro_of (by decide) (by decide) (by decide) (by decide)) rfl rfl (Nat.le_of_ble_eq_true rfl) (dkAt dk_X12_noAction 1 rfl) 4 rfl 0 0 rfl rfl ?_
  refine x_if_ne C 29 (dkAt dk_X12_noAction 2 rfl) 7 rfl (by decide) hf (fun hf => ?_) (fun hf => ?_)
  · refine x_iconst C (v := (1 : Int32)) (by decide) (dkAt dk_X12_noAction 15 rfl) 30 rfl ?_
    refine x_goto C 34 (dkAt dk_X12_noAction 16 rfl) (by decide) ?_
    exact x_zret C E (by decide) hf (by decide) (by decide) (dkAt dk_X12_noAction 18 rfl)
  · refine x_aload_n C rfl rfl (dkAt dk_X12_noAction 3 rfl) 8 rfl ?_
    refine x_aload_n C rfl rfl (dkAt dk_X12_noAction 4 rfl) 9 rfl ?_
    refine x_iload_n C rfl rfl (dkAt dk_X12_noAction 5 rfl) 10 rfl ?_
    refine x_iload_n C rfl rfl (dkAt dk_X12_noAction 6 rfl) 11 rfl ?_
    obtain ⟨v3, M4, h10, hf⟩ := cl_inv hf
    refine x_cVi C (c_X12_isAction hN h10) mw_X12_isAction ln_RX12_226 mi_X12_isAction (hN.rc (ci := 12) sh108 rc12) (ro_of (by decide) (by decide) (by decide) (by decide)) rfl rfl (Nat.le_of_ble_eq_true rfl) (dkAt dk_X12_noAction 7 rfl) 14 rfl 0 0 rfl rfl ?_
    refine x_join hf (fun t5 => G Γ X M4 0 0 [] [.int t5, .ref (wad Γ 108)] 22) (fun t5 hf => ?_) (fun j9 hj9 hf => ?_)
    · refine x_iconst C (v := (2 : Int32)) (by decide) (dkAt dk_X12_noAction 12 rfl) 23 rfl ?_
      obtain ⟨v6, M7, h8, hf⟩ := cl_inv hf
      refine x_cVi C (c_X12_refuse hN h8) mw_X12_refuse ln_RX12_68 mi_X12_refuse (hN.rc (ci := 12) sh108 rc12) (ro_of (by decide) (by decide) (by decide) (by decide)) rfl rfl (Nat.le_of_ble_eq_true rfl) (dkAt dk_X12_noAction 13 rfl) 26 rfl 0 0 rfl rfl ?_
      refine x_if_eq C 33 (dkAt dk_X12_noAction 14 rfl) 29 rfl (by decide) hf (fun hf => ?_) (fun hf => ?_)
      · refine x_iconst C (v := (0 : Int32)) (by decide) (dkAt dk_X12_noAction 17 rfl) 34 rfl ?_
        exact x_zret C E (by decide) hf (by decide) (by decide) (dkAt dk_X12_noAction 18 rfl)
      · refine x_iconst C (v := (1 : Int32)) (by decide) (dkAt dk_X12_noAction 15 rfl) 30 rfl ?_
        refine x_goto C 34 (dkAt dk_X12_noAction 16 rfl) (by decide) ?_
        exact x_zret C E (by decide) hf (by decide) (by decide) (dkAt dk_X12_noAction 18 rfl)
    · refine x_if_ne C 21 (dkAt dk_X12_noAction 8 rfl) 17 rfl (by decide) hf (fun hf => ?_) (fun hf => ?_)
      · refine x_iconst C (v := (0 : Int32)) (by decide) (dkAt dk_X12_noAction 11 rfl) 22 rfl ?_
        exact G.weak (L := []) trivial (hj9 _ hf)
      · refine x_iconst C (v := (1 : Int32)) (by decide) (dkAt dk_X12_noAction 9 rfl) 18 rfl ?_
        refine x_goto C 22 (dkAt dk_X12_noAction 10 rfl) (by decide) ?_
        exact G.weak (L := []) trivial (hj9 _ hf)
def f_X12_noBudget (Z : Nat) (M : Mem) (p0 : Int32) : Option (Int32 × Mem) :=
  cl (f_X12_noChain Z M) (fun v1 M2 => (if v1 = 0 then cl (f_X12_isBudget Z M2 p0) (fun v3 M4 => jn (fun (t5 : Int32) => cl (f_X12_refuse Z M4 t5 (2 : Int32)) (fun v6 M7 => (if v6 = 0 then some ((0 : Int32), M7) else some ((1 : Int32), M7)))) (fun j9 => (if v3 = 0 then j9 (1 : Int32) else j9 (0 : Int32)))) else some ((1 : Int32), M2)))
set_option maxRecDepth 100000 in
theorem c_X12_noBudget {Γ : WC} (hN : HN Γ) {Z : Nat} {M : Mem} {p0 : Int32} {rM : Int32 × Mem}  (hf : f_X12_noBudget Z M p0 = some rM) : Ct Γ yX12_noBudget cX12_noBudget 2 (some .boolean) (rmL 2 0 0) [.ref (wad Γ 108), .int p0] M (some (.int rM.1)) rM.2 := by
  refine mkN hN.1 (own := RX12) rfl (by decide) (Nat.le_of_ble_eq_true rfl) (fun X C E => ?_)
  change G Γ X M 0 0 [some (.ref (wad Γ 108)), some (.int p0)] [] 0
  unfold f_X12_noBudget at hf
  refine x_aload_n C rfl rfl (dkAt dk_X12_noBudget 0 rfl) 1 rfl ?_
  obtain ⟨v1, M2, h11, hf⟩ := cl_inv hf
  refine x_cVi C (c_X12_noChain hN h11) mw_X12_noChain ln_RX12_222 mi_X12_noChain (hN.rc (ci := 12) sh108 rc12) (ro_of (by decide) (by decide) (by decide) (by decide)) rfl rfl (Nat.le_of_ble_eq_true rfl) (dkAt dk_X12_noBudget 1 rfl) 4 rfl 0 0 rfl rfl ?_
  refine x_if_ne C 28 (dkAt dk_X12_noBudget 2 rfl) 7 rfl (by decide) hf (fun hf => ?_) (fun hf => ?_)
  · refine x_iconst C (v := (1 : Int32)) (by decide) (dkAt dk_X12_noBudget 14 rfl) 29 rfl ?_
    refine x_goto C 33 (dkAt dk_X12_noBudget 15 rfl) (by decide) ?_
    exact x_zret C E (by decide) hf (by decide) (by decide) (dkAt dk_X12_noBudget 17 rfl)
  · refine x_aload_n C rfl rfl (dkAt dk_X12_noBudget 3 rfl) 8 rfl ?_
    refine x_aload_n C rfl rfl (dkAt dk_X12_noBudget 4 rfl) 9 rfl ?_
    refine x_iload_n C rfl rfl (dkAt dk_X12_noBudget 5 rfl) 10 rfl ?_
    obtain ⟨v3, M4, h10, hf⟩ := cl_inv hf
    refine x_cVi C (c_X12_isBudget hN h10) mw_X12_isBudget ln_RX12_230 mi_X12_isBudget (hN.rc (ci := 12) sh108 rc12) (ro_of (by decide) (by decide) (by decide) (by decide)) rfl rfl (Nat.le_of_ble_eq_true rfl) (dkAt dk_X12_noBudget 6 rfl) 13 rfl 0 0 rfl rfl ?_
    refine x_join hf (fun t5 => G Γ X M4 0 0 [] [.int t5, .ref (wad Γ 108)] 21) (fun t5 hf => ?_) (fun j9 hj9 hf => ?_)
    · refine x_iconst C (v := (2 : Int32)) (by decide) (dkAt dk_X12_noBudget 11 rfl) 22 rfl ?_
      obtain ⟨v6, M7, h8, hf⟩ := cl_inv hf
      refine x_cVi C (c_X12_refuse hN h8) mw_X12_refuse ln_RX12_68 mi_X12_refuse (hN.rc (ci := 12) sh108 rc12) (ro_of (by decide) (by decide) (by decide) (by decide)) rfl rfl (Nat.le_of_ble_eq_true rfl) (dkAt dk_X12_noBudget 12 rfl) 25 rfl 0 0 rfl rfl ?_
      refine x_if_eq C 32 (dkAt dk_X12_noBudget 13 rfl) 28 rfl (by decide) hf (fun hf => ?_) (fun hf => ?_)
      · refine x_iconst C (v := (0 : Int32)) (by decide) (dkAt dk_X12_noBudget 16 rfl) 33 rfl ?_
        exact x_zret C E (by decide) hf (by decide) (by decide) (dkAt dk_X12_noBudget 17 rfl)
      · refine x_iconst C (v := (1 : Int32)) (by decide) (dkAt dk_X12_noBudget 14 rfl) 29 rfl ?_
        refine x_goto C 33 (dkAt dk_X12_noBudget 15 rfl) (by decide) ?_
        exact x_zret C E (by decide) hf (by decide) (by decide) (dkAt dk_X12_noBudget 17 rfl)
    · refine x_if_ne C 20 (dkAt dk_X12_noBudget 7 rfl) 16 rfl (by decide) hf (fun hf => ?_) (fun hf => ?_)
      · refine x_iconst C (v := (0 : Int32)) (by decide) (dkAt dk_X12_noBudget 10 rfl) 21 rfl ?_
        exact G.weak (L := []) trivial (hj9 _ hf)
      · refine x_iconst C (v := (1 : Int32)) (by decide) (dkAt dk_X12_noBudget 8 rfl) 17 rfl ?_
        refine x_goto C 21 (dkAt dk_X12_noBudget 9 rfl) (by decide) ?_
        exact G.weak (L := []) trivial (hj9 _ hf)
def f_X12_states (Z : Nat) (M : Mem)  : Option (Int32 × Mem) :=
  rdI M 112 344 (0 : Int32) (fun v1 => cl (f_X12_told Z M v1) (fun v2 M3 => some (v2, M3)))
set_option maxRecDepth 100000 in
theorem c_X12_states {Γ : WC} (hN : HN Γ) {Z : Nat} {M : Mem}  {rM : Int32 × Mem}  (hf : f_X12_states Z M  = some rM) : Ct Γ yX12_states cX12_states 1 (some .int) (rmL 1 0 0) [.ref (wad Γ 108)] M (some (.int rM.1)) rM.2 := by
  refine mkN hN.1 (own := RX12) rfl (by decide) (Nat.le_of_ble_eq_true rfl) (fun X C E => ?_)
  change G Γ X M 0 0 [some (.ref (wad Γ 108))] [] 0
  unfold f_X12_states at hf
  refine x_aload_n C rfl rfl (dkAt dk_X12_states 0 rfl) 1 rfl ?_
  refine x_aload_n C rfl rfl (dkAt dk_X12_states 1 rfl) 2 rfl ?_
  refine x_getS C lk_RX12_20 (hN.sh sh108) (hN.sr sr108_6) (dkAt dk_X12_states 2 rfl) 5 rfl ?_
  refine x_iconst C (v := (0 : Int32)) (by decide) (dkAt dk_X12_states 3 rfl) 6 rfl ?_
  refine x_iald C (hN.sh sh112) (dkAt dk_X12_states 4 rfl) 7 rfl hf (fun v1 hf => ?_)
  obtain ⟨v2, M3, h4, hf⟩ := cl_inv hf
  refine x_cVi C (c_X12_told hN h4) mw_X12_told ln_RX12_233 mi_X12_told (hN.rc (ci := 12) sh108 rc12) (ro_of (by decide) (by decide) (by decide) (by decide)) rfl rfl (Nat.le_of_ble_eq_true rfl) (dkAt dk_X12_states 5 rfl) 10 rfl 0 0 rfl rfl ?_
  exact x_iret C E hf (by decide) (by decide) (dkAt dk_X12_states 6 rfl)
def f_X12_budgets (Z : Nat) (M : Mem)  : Option (Int32 × Mem) :=
  rdI M 112 344 (1 : Int32) (fun v1 => cl (f_X12_told Z M v1) (fun v2 M3 => some (v2, M3)))
set_option maxRecDepth 100000 in
theorem c_X12_budgets {Γ : WC} (hN : HN Γ) {Z : Nat} {M : Mem}  {rM : Int32 × Mem}  (hf : f_X12_budgets Z M  = some rM) : Ct Γ yX12_budgets cX12_budgets 1 (some .int) (rmL 1 0 0) [.ref (wad Γ 108)] M (some (.int rM.1)) rM.2 := by
  refine mkN hN.1 (own := RX12) rfl (by decide) (Nat.le_of_ble_eq_true rfl) (fun X C E => ?_)
  change G Γ X M 0 0 [some (.ref (wad Γ 108))] [] 0
  unfold f_X12_budgets at hf
  refine x_aload_n C rfl rfl (dkAt dk_X12_budgets 0 rfl) 1 rfl ?_
  refine x_aload_n C rfl rfl (dkAt dk_X12_budgets 1 rfl) 2 rfl ?_
  refine x_getS C lk_RX12_20 (hN.sh sh108) (hN.sr sr108_6) (dkAt dk_X12_budgets 2 rfl) 5 rfl ?_
  refine x_iconst C (v := (1 : Int32)) (by decide) (dkAt dk_X12_budgets 3 rfl) 6 rfl ?_
  refine x_iald C (hN.sh sh112) (dkAt dk_X12_budgets 4 rfl) 7 rfl hf (fun v1 hf => ?_)
  obtain ⟨v2, M3, h4, hf⟩ := cl_inv hf
  refine x_cVi C (c_X12_told hN h4) mw_X12_told ln_RX12_233 mi_X12_told (hN.rc (ci := 12) sh108 rc12) (ro_of (by decide) (by decide) (by decide) (by decide)) rfl rfl (Nat.le_of_ble_eq_true rfl) (dkAt dk_X12_budgets 5 rfl) 10 rfl 0 0 rfl rfl ?_
  exact x_iret C E hf (by decide) (by decide) (dkAt dk_X12_budgets 6 rfl)
def f_X12_horizon (Z : Nat) (M : Mem)  : Option (Int32 × Mem) :=
  rdI M 109 54 (1 : Int32) (fun v1 => cl (f_X12_told Z M v1) (fun v2 M3 => some (v2, M3)))
set_option maxRecDepth 100000 in
theorem c_X12_horizon {Γ : WC} (hN : HN Γ) {Z : Nat} {M : Mem}  {rM : Int32 × Mem}  (hf : f_X12_horizon Z M  = some rM) : Ct Γ yX12_horizon cX12_horizon 1 (some .int) (rmL 1 0 0) [.ref (wad Γ 108)] M (some (.int rM.1)) rM.2 := by
  refine mkN hN.1 (own := RX12) rfl (by decide) (Nat.le_of_ble_eq_true rfl) (fun X C E => ?_)
  change G Γ X M 0 0 [some (.ref (wad Γ 108))] [] 0
  unfold f_X12_horizon at hf
  refine x_aload_n C rfl rfl (dkAt dk_X12_horizon 0 rfl) 1 rfl ?_
  refine x_aload_n C rfl rfl (dkAt dk_X12_horizon 1 rfl) 2 rfl ?_
  refine x_getS C lk_RX12_7 (hN.sh sh108) (hN.sr sr108_2) (dkAt dk_X12_horizon 2 rfl) 5 rfl ?_
  refine x_iconst C (v := (1 : Int32)) (by decide) (dkAt dk_X12_horizon 3 rfl) 6 rfl ?_
  refine x_iald C (hN.sh sh109) (dkAt dk_X12_horizon 4 rfl) 7 rfl hf (fun v1 hf => ?_)
  obtain ⟨v2, M3, h4, hf⟩ := cl_inv hf
  refine x_cVi C (c_X12_told hN h4) mw_X12_told ln_RX12_233 mi_X12_told (hN.rc (ci := 12) sh108 rc12) (ro_of (by decide) (by decide) (by decide) (by decide)) rfl rfl (Nat.le_of_ble_eq_true rfl) (dkAt dk_X12_horizon 5 rfl) 10 rfl 0 0 rfl rfl ?_
  exact x_iret C E hf (by decide) (by decide) (dkAt dk_X12_horizon 6 rfl)
def f_X12_undoable (Z : Nat) (M : Mem)  : Option (Int32 × Mem) :=
  bd (gI M (108) 4) (fun v1 => cl (f_X12_told Z M v1) (fun v2 M3 => some (v2, M3)))
set_option maxRecDepth 100000 in
theorem c_X12_undoable {Γ : WC} (hN : HN Γ) {Z : Nat} {M : Mem}  {rM : Int32 × Mem}  (hf : f_X12_undoable Z M  = some rM) : Ct Γ yX12_undoable cX12_undoable 1 (some .int) (rmL 1 0 0) [.ref (wad Γ 108)] M (some (.int rM.1)) rM.2 := by
  refine mkN hN.1 (own := RX12) rfl (by decide) (Nat.le_of_ble_eq_true rfl) (fun X C E => ?_)
  change G Γ X M 0 0 [some (.ref (wad Γ 108))] [] 0
  unfold f_X12_undoable at hf
  refine x_aload_n C rfl rfl (dkAt dk_X12_undoable 0 rfl) 1 rfl ?_
  refine x_aload_n C rfl rfl (dkAt dk_X12_undoable 1 rfl) 2 rfl ?_
  refine x_getI C lk_RX12_213 (hN.sh sh108) (dkAt dk_X12_undoable 2 rfl) 5 rfl hf (fun v1 hf => ?_)
  obtain ⟨v2, M3, h4, hf⟩ := cl_inv hf
  refine x_cVi C (c_X12_told hN h4) mw_X12_told ln_RX12_233 mi_X12_told (hN.rc (ci := 12) sh108 rc12) (ro_of (by decide) (by decide) (by decide) (by decide)) rfl rfl (Nat.le_of_ble_eq_true rfl) (dkAt dk_X12_undoable 3 rfl) 8 rfl 0 0 rfl rfl ?_
  exact x_iret C E hf (by decide) (by decide) (dkAt dk_X12_undoable 4 rfl)
def f_X12_start (Z : Nat) (M : Mem)  : Option (Int32 × Mem) :=
  cl (f_X12_noChain Z M) (fun v1 M2 => (if v1 = 0 then rdI M2 109 54 (0 : Int32) (fun v3 => some (v3, M2)) else some ((0 : Int32), M2)))
set_option maxRecDepth 100000 in
theorem c_X12_start {Γ : WC} (hN : HN Γ) {Z : Nat} {M : Mem}  {rM : Int32 × Mem}  (hf : f_X12_start Z M  = some rM) : Ct Γ yX12_start cX12_start 1 (some .int) (rmL 2 0 0) [.ref (wad Γ 108)] M (some (.int rM.1)) rM.2 := by
  refine mkN hN.1 (own := RX12) rfl (by decide) (Nat.le_of_ble_eq_true rfl) (fun X C E => ?_)
  change G Γ X M 0 0 [some (.ref (wad Γ 108))] [] 0
  unfold f_X12_start at hf
  refine x_aload_n C rfl rfl (dkAt dk_X12_start 0 rfl) 1 rfl ?_
  obtain ⟨v1, M2, h4, hf⟩ := cl_inv hf
  refine x_cVi C (c_X12_noChain hN h4) mw_X12_noChain ln_RX12_222 mi_X12_noChain (hN.rc (ci := 12) sh108 rc12) (ro_of (by decide) (by decide) (by decide) (by decide)) rfl rfl (Nat.le_of_ble_eq_true rfl) (dkAt dk_X12_start 1 rfl) 4 rfl 0 0 rfl rfl ?_
  refine x_if_eq C 11 (dkAt dk_X12_start 2 rfl) 7 rfl (by decide) hf (fun hf => ?_) (fun hf => ?_)
  · refine x_aload_n C rfl rfl (dkAt dk_X12_start 5 rfl) 12 rfl ?_
    refine x_getS C lk_RX12_7 (hN.sh sh108) (hN.sr sr108_2) (dkAt dk_X12_start 6 rfl) 15 rfl ?_
    refine x_iconst C (v := (0 : Int32)) (by decide) (dkAt dk_X12_start 7 rfl) 16 rfl ?_
    refine x_iald C (hN.sh sh109) (dkAt dk_X12_start 8 rfl) 17 rfl hf (fun v3 hf => ?_)
    exact x_iret C E hf (by decide) (by decide) (dkAt dk_X12_start 9 rfl)
  · refine x_iconst C (v := (0 : Int32)) (by decide) (dkAt dk_X12_start 3 rfl) 8 rfl ?_
    refine x_goto C 17 (dkAt dk_X12_start 4 rfl) (by decide) ?_
    exact x_iret C E hf (by decide) (by decide) (dkAt dk_X12_start 9 rfl)
def f_X12_actions (Z : Nat) (M : Mem) (p0 : Int32) : Option (Int32 × Mem) :=
  cl (f_X12_noState Z M p0) (fun v1 M2 => (if v1 = 0 then rdI M2 112 344 ((8 : Int32) + p0) (fun v3 => some (v3, M2)) else some ((0 : Int32), M2)))
set_option maxRecDepth 100000 in
theorem c_X12_actions {Γ : WC} (hN : HN Γ) {Z : Nat} {M : Mem} {p0 : Int32} {rM : Int32 × Mem}  (hf : f_X12_actions Z M p0 = some rM) : Ct Γ yX12_actions cX12_actions 2 (some .int) (rmL 3 0 0) [.ref (wad Γ 108), .int p0] M (some (.int rM.1)) rM.2 := by
  refine mkN hN.1 (own := RX12) rfl (by decide) (Nat.le_of_ble_eq_true rfl) (fun X C E => ?_)
  change G Γ X M 0 0 [some (.ref (wad Γ 108)), some (.int p0)] [] 0
  unfold f_X12_actions at hf
  refine x_aload_n C rfl rfl (dkAt dk_X12_actions 0 rfl) 1 rfl ?_
  refine x_iload_n C rfl rfl (dkAt dk_X12_actions 1 rfl) 2 rfl ?_
  obtain ⟨v1, M2, h4, hf⟩ := cl_inv hf
  refine x_cVi C (c_X12_noState hN h4) mw_X12_noState ln_RX12_236 mi_X12_noState (hN.rc (ci := 12) sh108 rc12) (ro_of (by decide) (by decide) (by decide) (by decide)) rfl rfl (Nat.le_of_ble_eq_true rfl) (dkAt dk_X12_actions 2 rfl) 5 rfl 0 0 rfl rfl ?_
  refine x_if_eq C 12 (dkAt dk_X12_actions 3 rfl) 8 rfl (by decide) hf (fun hf => ?_) (fun hf => ?_)
  · refine x_aload_n C rfl rfl (dkAt dk_X12_actions 6 rfl) 13 rfl ?_
    refine x_getS C lk_RX12_20 (hN.sh sh108) (hN.sr sr108_6) (dkAt dk_X12_actions 7 rfl) 16 rfl ?_
    refine x_bipush C (v := (8 : Int32)) (by decide) (dkAt dk_X12_actions 8 rfl) 18 rfl ?_
    refine x_iload_n C rfl rfl (dkAt dk_X12_actions 9 rfl) 19 rfl ?_
    refine x_iadd C (dkAt dk_X12_actions 10 rfl) 20 rfl ?_
    refine x_iald C (hN.sh sh112) (dkAt dk_X12_actions 11 rfl) 21 rfl hf (fun v3 hf => ?_)
    exact x_iret C E hf (by decide) (by decide) (dkAt dk_X12_actions 12 rfl)
  · refine x_iconst C (v := (0 : Int32)) (by decide) (dkAt dk_X12_actions 4 rfl) 9 rfl ?_
    refine x_goto C 21 (dkAt dk_X12_actions 5 rfl) (by decide) ?_
    exact x_iret C E hf (by decide) (by decide) (dkAt dk_X12_actions 12 rfl)
def f_X12_gainBy (Z : Nat) (M : Mem) (p0 : Int32) (p1 : Int32) : Option (Int32 × Mem) :=
  rdI M 112 344 (((14 : Int32) + ((3 : Int32) * p0)) + p1) (fun v1 => some (v1, M))
set_option maxRecDepth 100000 in
theorem c_X12_gainBy {Γ : WC} (hN : HN Γ) {Z : Nat} {M : Mem} {p0 : Int32} {p1 : Int32} {rM : Int32 × Mem}  (hf : f_X12_gainBy Z M p0 p1 = some rM) : Ct Γ yX12_gainBy cX12_gainBy 3 (some .int) (rmL 0 0 0) [.ref (wad Γ 108), .int p0, .int p1] M (some (.int rM.1)) rM.2 := by
  refine mkN hN.1 (own := RX12) rfl (by decide) (Nat.le_of_ble_eq_true rfl) (fun X C E => ?_)
  change G Γ X M 0 0 [some (.ref (wad Γ 108)), some (.int p0), some (.int p1)] [] 0
  unfold f_X12_gainBy at hf
  refine x_aload_n C rfl rfl (dkAt dk_X12_gainBy 0 rfl) 1 rfl ?_
  refine x_getS C lk_RX12_20 (hN.sh sh108) (hN.sr sr108_6) (dkAt dk_X12_gainBy 1 rfl) 4 rfl ?_
  refine x_bipush C (v := (14 : Int32)) (by decide) (dkAt dk_X12_gainBy 2 rfl) 6 rfl ?_
  refine x_iconst C (v := (3 : Int32)) (by decide) (dkAt dk_X12_gainBy 3 rfl) 7 rfl ?_
  refine x_iload_n C rfl rfl (dkAt dk_X12_gainBy 4 rfl) 8 rfl ?_
  refine x_imul C (dkAt dk_X12_gainBy 5 rfl) 9 rfl ?_
  refine x_iadd C (dkAt dk_X12_gainBy 6 rfl) 10 rfl ?_
  refine x_iload_n C rfl rfl (dkAt dk_X12_gainBy 7 rfl) 11 rfl ?_
  refine x_iadd C (dkAt dk_X12_gainBy 8 rfl) 12 rfl ?_
  refine x_iald C (hN.sh sh112) (dkAt dk_X12_gainBy 9 rfl) 13 rfl hf (fun v1 hf => ?_)
  exact x_iret C E hf (by decide) (by decide) (dkAt dk_X12_gainBy 10 rfl)
def f_X12_usesBy (Z : Nat) (M : Mem) (p0 : Int32) (p1 : Int32) (p2 : Int32) : Option (Int32 × Mem) :=
  rdI M 112 344 (((32 : Int32) + ((3 : Int32) * (((3 : Int32) * p0) + p1))) + p2) (fun v1 => some (v1, M))
set_option maxRecDepth 100000 in
theorem c_X12_usesBy {Γ : WC} (hN : HN Γ) {Z : Nat} {M : Mem} {p0 : Int32} {p1 : Int32} {p2 : Int32} {rM : Int32 × Mem}  (hf : f_X12_usesBy Z M p0 p1 p2 = some rM) : Ct Γ yX12_usesBy cX12_usesBy 4 (some .int) (rmL 0 0 0) [.ref (wad Γ 108), .int p0, .int p1, .int p2] M (some (.int rM.1)) rM.2 := by
  refine mkN hN.1 (own := RX12) rfl (by decide) (Nat.le_of_ble_eq_true rfl) (fun X C E => ?_)
  change G Γ X M 0 0 [some (.ref (wad Γ 108)), some (.int p0), some (.int p1), some (.int p2)] [] 0
  unfold f_X12_usesBy at hf
  refine x_aload_n C rfl rfl (dkAt dk_X12_usesBy 0 rfl) 1 rfl ?_
  refine x_getS C lk_RX12_20 (hN.sh sh108) (hN.sr sr108_6) (dkAt dk_X12_usesBy 1 rfl) 4 rfl ?_
  refine x_bipush C (v := (32 : Int32)) (by decide) (dkAt dk_X12_usesBy 2 rfl) 6 rfl ?_
  refine x_iconst C (v := (3 : Int32)) (by decide) (dkAt dk_X12_usesBy 3 rfl) 7 rfl ?_
  refine x_iconst C (v := (3 : Int32)) (by decide) (dkAt dk_X12_usesBy 4 rfl) 8 rfl ?_
  refine x_iload_n C rfl rfl (dkAt dk_X12_usesBy 5 rfl) 9 rfl ?_
  refine x_imul C (dkAt dk_X12_usesBy 6 rfl) 10 rfl ?_
  refine x_iload_n C rfl rfl (dkAt dk_X12_usesBy 7 rfl) 11 rfl ?_
  refine x_iadd C (dkAt dk_X12_usesBy 8 rfl) 12 rfl ?_
  refine x_imul C (dkAt dk_X12_usesBy 9 rfl) 13 rfl ?_
  refine x_iadd C (dkAt dk_X12_usesBy 10 rfl) 14 rfl ?_
  refine x_iload_n C rfl rfl (dkAt dk_X12_usesBy 11 rfl) 15 rfl ?_
  refine x_iadd C (dkAt dk_X12_usesBy 12 rfl) 16 rfl ?_
  refine x_iald C (hN.sh sh112) (dkAt dk_X12_usesBy 13 rfl) 17 rfl hf (fun v1 hf => ?_)
  exact x_iret C E hf (by decide) (by decide) (dkAt dk_X12_usesBy 14 rfl)
def f_X12_percentBy (Z : Nat) (M : Mem) (p0 : Int32) (p1 : Int32) (p2 : Int32) : Option (Int32 × Mem) :=
  rdI M 112 344 (((86 : Int32) + ((6 : Int32) * (((3 : Int32) * p0) + p1))) + p2) (fun v1 => some (v1, M))
set_option maxRecDepth 100000 in
theorem c_X12_percentBy {Γ : WC} (hN : HN Γ) {Z : Nat} {M : Mem} {p0 : Int32} {p1 : Int32} {p2 : Int32} {rM : Int32 × Mem}  (hf : f_X12_percentBy Z M p0 p1 p2 = some rM) : Ct Γ yX12_percentBy cX12_percentBy 4 (some .int) (rmL 0 0 0) [.ref (wad Γ 108), .int p0, .int p1, .int p2] M (some (.int rM.1)) rM.2 := by
  refine mkN hN.1 (own := RX12) rfl (by decide) (Nat.le_of_ble_eq_true rfl) (fun X C E => ?_)
  change G Γ X M 0 0 [some (.ref (wad Γ 108)), some (.int p0), some (.int p1), some (.int p2)] [] 0
  unfold f_X12_percentBy at hf
  refine x_aload_n C rfl rfl (dkAt dk_X12_percentBy 0 rfl) 1 rfl ?_
  refine x_getS C lk_RX12_20 (hN.sh sh108) (hN.sr sr108_6) (dkAt dk_X12_percentBy 1 rfl) 4 rfl ?_
  refine x_bipush C (v := (86 : Int32)) (by decide) (dkAt dk_X12_percentBy 2 rfl) 6 rfl ?_
  refine x_bipush C (v := (6 : Int32)) (by decide) (dkAt dk_X12_percentBy 3 rfl) 8 rfl ?_
  refine x_iconst C (v := (3 : Int32)) (by decide) (dkAt dk_X12_percentBy 4 rfl) 9 rfl ?_
  refine x_iload_n C rfl rfl (dkAt dk_X12_percentBy 5 rfl) 10 rfl ?_
  refine x_imul C (dkAt dk_X12_percentBy 6 rfl) 11 rfl ?_
  refine x_iload_n C rfl rfl (dkAt dk_X12_percentBy 7 rfl) 12 rfl ?_
  refine x_iadd C (dkAt dk_X12_percentBy 8 rfl) 13 rfl ?_
  refine x_imul C (dkAt dk_X12_percentBy 9 rfl) 14 rfl ?_
  refine x_iadd C (dkAt dk_X12_percentBy 10 rfl) 15 rfl ?_
  refine x_iload_n C rfl rfl (dkAt dk_X12_percentBy 11 rfl) 16 rfl ?_
  refine x_iadd C (dkAt dk_X12_percentBy 12 rfl) 17 rfl ?_
  refine x_iald C (hN.sh sh112) (dkAt dk_X12_percentBy 13 rfl) 18 rfl hf (fun v1 hf => ?_)
  exact x_iret C E hf (by decide) (by decide) (dkAt dk_X12_percentBy 14 rfl)
def f_X12_weightOf (Z : Nat) (M : Mem) (p0 : Int32) (p1 : Int32) : Option (Int32 × Mem) :=
  rdI M 109 54 (((4 : Int32) + ((3 : Int32) * p0)) + p1) (fun v1 => some (v1, M))
set_option maxRecDepth 100000 in
theorem c_X12_weightOf {Γ : WC} (hN : HN Γ) {Z : Nat} {M : Mem} {p0 : Int32} {p1 : Int32} {rM : Int32 × Mem}  (hf : f_X12_weightOf Z M p0 p1 = some rM) : Ct Γ yX12_weightOf cX12_weightOf 3 (some .int) (rmL 0 0 0) [.ref (wad Γ 108), .int p0, .int p1] M (some (.int rM.1)) rM.2 := by
  refine mkN hN.1 (own := RX12) rfl (by decide) (Nat.le_of_ble_eq_true rfl) (fun X C E => ?_)
  change G Γ X M 0 0 [some (.ref (wad Γ 108)), some (.int p0), some (.int p1)] [] 0
  unfold f_X12_weightOf at hf
  refine x_aload_n C rfl rfl (dkAt dk_X12_weightOf 0 rfl) 1 rfl ?_
  refine x_getS C lk_RX12_7 (hN.sh sh108) (hN.sr sr108_2) (dkAt dk_X12_weightOf 1 rfl) 4 rfl ?_
  refine x_iconst C (v := (4 : Int32)) (by decide) (dkAt dk_X12_weightOf 2 rfl) 5 rfl ?_
  refine x_iconst C (v := (3 : Int32)) (by decide) (dkAt dk_X12_weightOf 3 rfl) 6 rfl ?_
  refine x_iload_n C rfl rfl (dkAt dk_X12_weightOf 4 rfl) 7 rfl ?_
  refine x_imul C (dkAt dk_X12_weightOf 5 rfl) 8 rfl ?_
  refine x_iadd C (dkAt dk_X12_weightOf 6 rfl) 9 rfl ?_
  refine x_iload_n C rfl rfl (dkAt dk_X12_weightOf 7 rfl) 10 rfl ?_
  refine x_iadd C (dkAt dk_X12_weightOf 8 rfl) 11 rfl ?_
  refine x_iald C (hN.sh sh109) (dkAt dk_X12_weightOf 9 rfl) 12 rfl hf (fun v1 hf => ?_)
  exact x_iret C E hf (by decide) (by decide) (dkAt dk_X12_weightOf 10 rfl)
def f_X12_isPermittedNow (Z : Nat) (M : Mem) (p0 : Int32) (p1 : Int32) : Option (Int32 × Mem) :=
  rdI M 109 54 (((22 : Int32) + ((3 : Int32) * p0)) + p1) (fun v1 => (if v1 = (1 : Int32) then some ((1 : Int32), M) else some ((0 : Int32), M)))
set_option maxRecDepth 100000 in
theorem c_X12_isPermittedNow {Γ : WC} (hN : HN Γ) {Z : Nat} {M : Mem} {p0 : Int32} {p1 : Int32} {rM : Int32 × Mem}  (hf : f_X12_isPermittedNow Z M p0 p1 = some rM) : Ct Γ yX12_isPermittedNow cX12_isPermittedNow 3 (some .boolean) (rmL 0 0 0) [.ref (wad Γ 108), .int p0, .int p1] M (some (.int rM.1)) rM.2 := by
  refine mkN hN.1 (own := RX12) rfl (by decide) (Nat.le_of_ble_eq_true rfl) (fun X C E => ?_)
  change G Γ X M 0 0 [some (.ref (wad Γ 108)), some (.int p0), some (.int p1)] [] 0
  unfold f_X12_isPermittedNow at hf
  refine x_aload_n C rfl rfl (dkAt dk_X12_isPermittedNow 0 rfl) 1 rfl ?_
  refine x_getS C lk_RX12_7 (hN.sh sh108) (hN.sr sr108_2) (dkAt dk_X12_isPermittedNow 1 rfl) 4 rfl ?_
  refine x_bipush C (v := (22 : Int32)) (by decide) (dkAt dk_X12_isPermittedNow 2 rfl) 6 rfl ?_
  refine x_iconst C (v := (3 : Int32)) (by decide) (dkAt dk_X12_isPermittedNow 3 rfl) 7 rfl ?_
  refine x_iload_n C rfl rfl (dkAt dk_X12_isPermittedNow 4 rfl) 8 rfl ?_
  refine x_imul C (dkAt dk_X12_isPermittedNow 5 rfl) 9 rfl ?_
  refine x_iadd C (dkAt dk_X12_isPermittedNow 6 rfl) 10 rfl ?_
  refine x_iload_n C rfl rfl (dkAt dk_X12_isPermittedNow 7 rfl) 11 rfl ?_
  refine x_iadd C (dkAt dk_X12_isPermittedNow 8 rfl) 12 rfl ?_
  refine x_iald C (hN.sh sh109) (dkAt dk_X12_isPermittedNow 9 rfl) 13 rfl hf (fun v1 hf => ?_)
  refine x_iconst C (v := (1 : Int32)) (by decide) (dkAt dk_X12_isPermittedNow 10 rfl) 14 rfl ?_
  refine x_icmp_ne C 21 (dkAt dk_X12_isPermittedNow 11 rfl) 17 rfl (by decide) hf (fun hf => ?_) (fun hf => ?_)
  · refine x_iconst C (v := (0 : Int32)) (by decide) (dkAt dk_X12_isPermittedNow 14 rfl) 22 rfl ?_
    exact x_zret C E (by decide) hf (by decide) (by decide) (dkAt dk_X12_isPermittedNow 15 rfl)
  · refine x_iconst C (v := (1 : Int32)) (by decide) (dkAt dk_X12_isPermittedNow 12 rfl) 18 rfl ?_
    refine x_goto C 22 (dkAt dk_X12_isPermittedNow 13 rfl) (by decide) ?_
    exact x_zret C E (by decide) hf (by decide) (by decide) (dkAt dk_X12_isPermittedNow 15 rfl)
def f_X12_gain (Z : Nat) (M : Mem) (p0 : Int32) (p1 : Int32) : Option (Int32 × Mem) :=
  cl (f_X12_noAction Z M p0 p1) (fun v1 M2 => (if v1 = 0 then cl (f_X12_gainBy Z M2 p0 p1) (fun v3 M4 => some (v3, M4)) else some ((0 : Int32), M2)))
set_option maxRecDepth 100000 in
theorem c_X12_gain {Γ : WC} (hN : HN Γ) {Z : Nat} {M : Mem} {p0 : Int32} {p1 : Int32} {rM : Int32 × Mem}  (hf : f_X12_gain Z M p0 p1 = some rM) : Ct Γ yX12_gain cX12_gain 3 (some .int) (rmL 4 0 0) [.ref (wad Γ 108), .int p0, .int p1] M (some (.int rM.1)) rM.2 := by
  refine mkN hN.1 (own := RX12) rfl (by decide) (Nat.le_of_ble_eq_true rfl) (fun X C E => ?_)
  change G Γ X M 0 0 [some (.ref (wad Γ 108)), some (.int p0), some (.int p1)] [] 0
  unfold f_X12_gain at hf
  refine x_aload_n C rfl rfl (dkAt dk_X12_gain 0 rfl) 1 rfl ?_
  refine x_iload_n C rfl rfl (dkAt dk_X12_gain 1 rfl) 2 rfl ?_
  refine x_iload_n C rfl rfl (dkAt dk_X12_gain 2 rfl) 3 rfl ?_
  obtain ⟨v1, M2, h6, hf⟩ := cl_inv hf
  refine x_cVi C (c_X12_noAction hN h6) mw_X12_noAction ln_RX12_239 mi_X12_noAction (hN.rc (ci := 12) sh108 rc12) (ro_of (by decide) (by decide) (by decide) (by decide)) rfl rfl (Nat.le_of_ble_eq_true rfl) (dkAt dk_X12_gain 3 rfl) 6 rfl 0 0 rfl rfl ?_
  refine x_if_eq C 13 (dkAt dk_X12_gain 4 rfl) 9 rfl (by decide) hf (fun hf => ?_) (fun hf => ?_)
  · refine x_aload_n C rfl rfl (dkAt dk_X12_gain 7 rfl) 14 rfl ?_
    refine x_iload_n C rfl rfl (dkAt dk_X12_gain 8 rfl) 15 rfl ?_
    refine x_iload_n C rfl rfl (dkAt dk_X12_gain 9 rfl) 16 rfl ?_
    obtain ⟨v3, M4, h5, hf⟩ := cl_inv hf
    refine x_cVi C (c_X12_gainBy hN h5) mw_X12_gainBy ln_RX12_242 mi_X12_gainBy (hN.rc (ci := 12) sh108 rc12) (ro_of (by decide) (by decide) (by decide) (by decide)) rfl rfl (Nat.le_of_ble_eq_true rfl) (dkAt dk_X12_gain 10 rfl) 19 rfl 0 0 rfl rfl ?_
    exact x_iret C E hf (by decide) (by decide) (dkAt dk_X12_gain 11 rfl)
  · refine x_iconst C (v := (0 : Int32)) (by decide) (dkAt dk_X12_gain 5 rfl) 10 rfl ?_
    refine x_goto C 19 (dkAt dk_X12_gain 6 rfl) (by decide) ?_
    exact x_iret C E hf (by decide) (by decide) (dkAt dk_X12_gain 11 rfl)
def f_X12_uses (Z : Nat) (M : Mem) (p0 : Int32) (p1 : Int32) (p2 : Int32) : Option (Int32 × Mem) :=
  cl (f_X12_noChain Z M) (fun v1 M2 => (if v1 = 0 then cl (f_X12_isAction Z M2 p0 p1) (fun v3 M4 => jn (fun (t5 : Int32 × Mem) => cl (f_X12_refuse Z t5.2 t5.1 (2 : Int32)) (fun v6 M7 => (if v6 = 0 then cl (f_X12_usesBy Z M7 p0 p1 p2) (fun v8 M9 => some (v8, M9)) else some ((0 : Int32), M7)))) (fun j12 => jn (fun (t13 : Mem) => j12 ((1 : Int32), t13)) (fun j14 => (if v3 = 0 then j14 M4 else cl (f_X12_isBudget Z M4 p2) (fun v15 M16 => (if v15 = 0 then j14 M16 else j12 ((0 : Int32), M16))))))) else some ((0 : Int32), M2)))
set_option maxRecDepth 100000 in
theorem c_X12_uses {Γ : WC} (hN : HN Γ) {Z : Nat} {M : Mem} {p0 : Int32} {p1 : Int32} {p2 : Int32} {rM : Int32 × Mem}  (hf : f_X12_uses Z M p0 p1 p2 = some rM) : Ct Γ yX12_uses cX12_uses 4 (some .int) (rmL 3 0 0) [.ref (wad Γ 108), .int p0, .int p1, .int p2] M (some (.int rM.1)) rM.2 := by
  refine mkN hN.1 (own := RX12) rfl (by decide) (Nat.le_of_ble_eq_true rfl) (fun X C E => ?_)
  change G Γ X M 0 0 [some (.ref (wad Γ 108)), some (.int p0), some (.int p1), some (.int p2)] [] 0
  unfold f_X12_uses at hf
  refine x_aload_n C rfl rfl (dkAt dk_X12_uses 0 rfl) 1 rfl ?_
  obtain ⟨v1, M2, h19, hf⟩ := cl_inv hf
  refine x_cVi C (c_X12_noChain hN h19) mw_X12_noChain ln_RX12_222 mi_X12_noChain (hN.rc (ci := 12) sh108 rc12) (ro_of (by decide) (by decide) (by decide) (by decide)) rfl rfl (Nat.le_of_ble_eq_true rfl) (dkAt dk_X12_uses 1 rfl) 4 rfl 0 0 rfl rfl ?_
  refine x_if_ne C 37 (dkAt dk_X12_uses 2 rfl) 7 rfl (by decide) hf (fun hf => ?_) (fun hf => ?_)
  · refine x_iconst C (v := (0 : Int32)) (by decide) (dkAt dk_X12_uses 19 rfl) 38 rfl ?_
    refine x_goto C 48 (dkAt dk_X12_uses 20 rfl) (by decide) ?_
    exact x_iret C E hf (by decide) (by decide) (dkAt dk_X12_uses 26 rfl)
  · refine x_aload_n C rfl rfl (dkAt dk_X12_uses 3 rfl) 8 rfl ?_
    refine x_aload_n C rfl rfl (dkAt dk_X12_uses 4 rfl) 9 rfl ?_
    refine x_iload_n C rfl rfl (dkAt dk_X12_uses 5 rfl) 10 rfl ?_
    refine x_iload_n C rfl rfl (dkAt dk_X12_uses 6 rfl) 11 rfl ?_
    obtain ⟨v3, M4, h18, hf⟩ := cl_inv hf
    refine x_cVi C (c_X12_isAction hN h18) mw_X12_isAction ln_RX12_226 mi_X12_isAction (hN.rc (ci := 12) sh108 rc12) (ro_of (by decide) (by decide) (by decide) (by decide)) rfl rfl (Nat.le_of_ble_eq_true rfl) (dkAt dk_X12_uses 7 rfl) 14 rfl 0 0 rfl rfl ?_
    refine x_join hf (fun t5 => G Γ X t5.2 0 0 [some (.ref (wad Γ 108)), some (.int p0), some (.int p1), some (.int p2)] [.int t5.1, .ref (wad Γ 108)] 30) (fun t5 hf => ?_) (fun j12 hj12 hf => ?_)
    · refine x_iconst C (v := (2 : Int32)) (by decide) (dkAt dk_X12_uses 16 rfl) 31 rfl ?_
      obtain ⟨v6, M7, h11, hf⟩ := cl_inv hf
      refine x_cVi C (c_X12_refuse hN h11) mw_X12_refuse ln_RX12_68 mi_X12_refuse (hN.rc (ci := 12) sh108 rc12) (ro_of (by decide) (by decide) (by decide) (by decide)) rfl rfl (Nat.le_of_ble_eq_true rfl) (dkAt dk_X12_uses 17 rfl) 34 rfl 0 0 rfl rfl ?_
      refine x_if_eq C 41 (dkAt dk_X12_uses 18 rfl) 37 rfl (by decide) hf (fun hf => ?_) (fun hf => ?_)
      · refine x_aload_n C rfl rfl (dkAt dk_X12_uses 21 rfl) 42 rfl ?_
        refine x_iload_n C rfl rfl (dkAt dk_X12_uses 22 rfl) 43 rfl ?_
        refine x_iload_n C rfl rfl (dkAt dk_X12_uses 23 rfl) 44 rfl ?_
        refine x_iload_n C rfl rfl (dkAt dk_X12_uses 24 rfl) 45 rfl ?_
        obtain ⟨v8, M9, h10, hf⟩ := cl_inv hf
        refine x_cVi C (c_X12_usesBy hN h10) mw_X12_usesBy ln_RX12_245 mi_X12_usesBy (hN.rc (ci := 12) sh108 rc12) (ro_of (by decide) (by decide) (by decide) (by decide)) rfl rfl (Nat.le_of_ble_eq_true rfl) (dkAt dk_X12_uses 25 rfl) 48 rfl 0 0 rfl rfl ?_
        exact x_iret C E hf (by decide) (by decide) (dkAt dk_X12_uses 26 rfl)
      · refine x_iconst C (v := (0 : Int32)) (by decide) (dkAt dk_X12_uses 19 rfl) 38 rfl ?_
        refine x_goto C 48 (dkAt dk_X12_uses 20 rfl) (by decide) ?_
        exact x_iret C E hf (by decide) (by decide) (dkAt dk_X12_uses 26 rfl)
    · refine x_join hf (fun t13 => G Γ X t13 0 0 [some (.ref (wad Γ 108)), some (.int p0), some (.int p1), some (.int p2)] [.ref (wad Γ 108)] 25) (fun t13 hf => ?_) (fun j14 hj14 hf => ?_)
      · refine x_iconst C (v := (1 : Int32)) (by decide) (dkAt dk_X12_uses 13 rfl) 26 rfl ?_
        refine x_goto C 30 (dkAt dk_X12_uses 14 rfl) (by decide) ?_
        exact G.weak (L := [some (.ref (wad Γ 108)), some (.int p0), some (.int p1), some (.int p2)]) ⟨rfl, rfl, rfl, rfl, trivial⟩ (hj12 _ hf)
      · refine x_if_eq C 25 (dkAt dk_X12_uses 8 rfl) 17 rfl (by decide) hf (fun hf => ?_) (fun hf => ?_)
        · exact G.weak (L := [some (.ref (wad Γ 108)), some (.int p0), some (.int p1), some (.int p2)]) ⟨rfl, rfl, rfl, rfl, trivial⟩ (hj14 _ hf)
        · refine x_aload_n C rfl rfl (dkAt dk_X12_uses 9 rfl) 18 rfl ?_
          refine x_iload_n C rfl rfl (dkAt dk_X12_uses 10 rfl) 19 rfl ?_
          obtain ⟨v15, M16, h17, hf⟩ := cl_inv hf
          refine x_cVi C (c_X12_isBudget hN h17) mw_X12_isBudget ln_RX12_230 mi_X12_isBudget (hN.rc (ci := 12) sh108 rc12) (ro_of (by decide) (by decide) (by decide) (by decide)) rfl rfl (Nat.le_of_ble_eq_true rfl) (dkAt dk_X12_uses 11 rfl) 22 rfl 0 0 rfl rfl ?_
          refine x_if_ne C 29 (dkAt dk_X12_uses 12 rfl) 25 rfl (by decide) hf (fun hf => ?_) (fun hf => ?_)
          · refine x_iconst C (v := (0 : Int32)) (by decide) (dkAt dk_X12_uses 15 rfl) 30 rfl ?_
            exact G.weak (L := [some (.ref (wad Γ 108)), some (.int p0), some (.int p1), some (.int p2)]) ⟨rfl, rfl, rfl, rfl, trivial⟩ (hj12 _ hf)
          · exact G.weak (L := [some (.ref (wad Γ 108)), some (.int p0), some (.int p1), some (.int p2)]) ⟨rfl, rfl, rfl, rfl, trivial⟩ (hj14 _ hf)
def f_X12_percent (Z : Nat) (M : Mem) (p0 : Int32) (p1 : Int32) (p2 : Int32) : Option (Int32 × Mem) :=
  cl (f_X12_noChain Z M) (fun v1 M2 => (if v1 = 0 then cl (f_X12_isAction Z M2 p0 p1) (fun v3 M4 => jn (fun (t5 : Int32 × Mem) => cl (f_X12_refuse Z t5.2 t5.1 (2 : Int32)) (fun v6 M7 => (if v6 = 0 then cl (f_X12_percentBy Z M7 p0 p1 p2) (fun v8 M9 => some (v8, M9)) else some ((0 : Int32), M7)))) (fun j12 => jn (fun (t13 : Mem) => j12 ((1 : Int32), t13)) (fun j14 => (if v3 = 0 then j14 M4 else cl (f_X12_isState Z M4 p2) (fun v15 M16 => (if v15 = 0 then j14 M16 else j12 ((0 : Int32), M16))))))) else some ((0 : Int32), M2)))
set_option maxRecDepth 100000 in
theorem c_X12_percent {Γ : WC} (hN : HN Γ) {Z : Nat} {M : Mem} {p0 : Int32} {p1 : Int32} {p2 : Int32} {rM : Int32 × Mem}  (hf : f_X12_percent Z M p0 p1 p2 = some rM) : Ct Γ yX12_percent cX12_percent 4 (some .int) (rmL 3 0 0) [.ref (wad Γ 108), .int p0, .int p1, .int p2] M (some (.int rM.1)) rM.2 := by
  refine mkN hN.1 (own := RX12) rfl (by decide) (Nat.le_of_ble_eq_true rfl) (fun X C E => ?_)
  change G Γ X M 0 0 [some (.ref (wad Γ 108)), some (.int p0), some (.int p1), some (.int p2)] [] 0
  unfold f_X12_percent at hf
  refine x_aload_n C rfl rfl (dkAt dk_X12_percent 0 rfl) 1 rfl ?_
  obtain ⟨v1, M2, h19, hf⟩ := cl_inv hf
  refine x_cVi C (c_X12_noChain hN h19) mw_X12_noChain ln_RX12_222 mi_X12_noChain (hN.rc (ci := 12) sh108 rc12) (ro_of (by decide) (by decide) (by decide) (by decide)) rfl rfl (Nat.le_of_ble_eq_true rfl) (dkAt dk_X12_percent 1 rfl) 4 rfl 0 0 rfl rfl ?_
  refine x_if_ne C 37 (dkAt dk_X12_percent 2 rfl) 7 rfl (by decide) hf (fun hf => ?_) (fun hf => ?_)
  · refine x_iconst C (v := (0 : Int32)) (by decide) (dkAt dk_X12_percent 19 rfl) 38 rfl ?_
    refine x_goto C 48 (dkAt dk_X12_percent 20 rfl) (by decide) ?_
    exact x_iret C E hf (by decide) (by decide) (dkAt dk_X12_percent 26 rfl)
  · refine x_aload_n C rfl rfl (dkAt dk_X12_percent 3 rfl) 8 rfl ?_
    refine x_aload_n C rfl rfl (dkAt dk_X12_percent 4 rfl) 9 rfl ?_
    refine x_iload_n C rfl rfl (dkAt dk_X12_percent 5 rfl) 10 rfl ?_
    refine x_iload_n C rfl rfl (dkAt dk_X12_percent 6 rfl) 11 rfl ?_
    obtain ⟨v3, M4, h18, hf⟩ := cl_inv hf
    refine x_cVi C (c_X12_isAction hN h18) mw_X12_isAction ln_RX12_226 mi_X12_isAction (hN.rc (ci := 12) sh108 rc12) (ro_of (by decide) (by decide) (by decide) (by decide)) rfl rfl (Nat.le_of_ble_eq_true rfl) (dkAt dk_X12_percent 7 rfl) 14 rfl 0 0 rfl rfl ?_
    refine x_join hf (fun t5 => G Γ X t5.2 0 0 [some (.ref (wad Γ 108)), some (.int p0), some (.int p1), some (.int p2)] [.int t5.1, .ref (wad Γ 108)] 30) (fun t5 hf => ?_) (fun j12 hj12 hf => ?_)
    · refine x_iconst C (v := (2 : Int32)) (by decide) (dkAt dk_X12_percent 16 rfl) 31 rfl ?_
      obtain ⟨v6, M7, h11, hf⟩ := cl_inv hf
      refine x_cVi C (c_X12_refuse hN h11) mw_X12_refuse ln_RX12_68 mi_X12_refuse (hN.rc (ci := 12) sh108 rc12) (ro_of (by decide) (by decide) (by decide) (by decide)) rfl rfl (Nat.le_of_ble_eq_true rfl) (dkAt dk_X12_percent 17 rfl) 34 rfl 0 0 rfl rfl ?_
      refine x_if_eq C 41 (dkAt dk_X12_percent 18 rfl) 37 rfl (by decide) hf (fun hf => ?_) (fun hf => ?_)
      · refine x_aload_n C rfl rfl (dkAt dk_X12_percent 21 rfl) 42 rfl ?_
        refine x_iload_n C rfl rfl (dkAt dk_X12_percent 22 rfl) 43 rfl ?_
        refine x_iload_n C rfl rfl (dkAt dk_X12_percent 23 rfl) 44 rfl ?_
        refine x_iload_n C rfl rfl (dkAt dk_X12_percent 24 rfl) 45 rfl ?_
        obtain ⟨v8, M9, h10, hf⟩ := cl_inv hf
        refine x_cVi C (c_X12_percentBy hN h10) mw_X12_percentBy ln_RX12_249 mi_X12_percentBy (hN.rc (ci := 12) sh108 rc12) (ro_of (by decide) (by decide) (by decide) (by decide)) rfl rfl (Nat.le_of_ble_eq_true rfl) (dkAt dk_X12_percent 25 rfl) 48 rfl 0 0 rfl rfl ?_
        exact x_iret C E hf (by decide) (by decide) (dkAt dk_X12_percent 26 rfl)
      · refine x_iconst C (v := (0 : Int32)) (by decide) (dkAt dk_X12_percent 19 rfl) 38 rfl ?_
        refine x_goto C 48 (dkAt dk_X12_percent 20 rfl) (by decide) ?_
        exact x_iret C E hf (by decide) (by decide) (dkAt dk_X12_percent 26 rfl)
    · refine x_join hf (fun t13 => G Γ X t13 0 0 [some (.ref (wad Γ 108)), some (.int p0), some (.int p1), some (.int p2)] [.ref (wad Γ 108)] 25) (fun t13 hf => ?_) (fun j14 hj14 hf => ?_)
      · refine x_iconst C (v := (1 : Int32)) (by decide) (dkAt dk_X12_percent 13 rfl) 26 rfl ?_
        refine x_goto C 30 (dkAt dk_X12_percent 14 rfl) (by decide) ?_
        exact G.weak (L := [some (.ref (wad Γ 108)), some (.int p0), some (.int p1), some (.int p2)]) ⟨rfl, rfl, rfl, rfl, trivial⟩ (hj12 _ hf)
      · refine x_if_eq C 25 (dkAt dk_X12_percent 8 rfl) 17 rfl (by decide) hf (fun hf => ?_) (fun hf => ?_)
        · exact G.weak (L := [some (.ref (wad Γ 108)), some (.int p0), some (.int p1), some (.int p2)]) ⟨rfl, rfl, rfl, rfl, trivial⟩ (hj14 _ hf)
        · refine x_aload_n C rfl rfl (dkAt dk_X12_percent 9 rfl) 18 rfl ?_
          refine x_iload_n C rfl rfl (dkAt dk_X12_percent 10 rfl) 19 rfl ?_
          obtain ⟨v15, M16, h17, hf⟩ := cl_inv hf
          refine x_cVi C (c_X12_isState hN h17) mw_X12_isState ln_RX12_219 mi_X12_isState (hN.rc (ci := 12) sh108 rc12) (ro_of (by decide) (by decide) (by decide) (by decide)) rfl rfl (Nat.le_of_ble_eq_true rfl) (dkAt dk_X12_percent 11 rfl) 22 rfl 0 0 rfl rfl ?_
          refine x_if_ne C 29 (dkAt dk_X12_percent 12 rfl) 25 rfl (by decide) hf (fun hf => ?_) (fun hf => ?_)
          · refine x_iconst C (v := (0 : Int32)) (by decide) (dkAt dk_X12_percent 15 rfl) 30 rfl ?_
            exact G.weak (L := [some (.ref (wad Γ 108)), some (.int p0), some (.int p1), some (.int p2)]) ⟨rfl, rfl, rfl, rfl, trivial⟩ (hj12 _ hf)
          · exact G.weak (L := [some (.ref (wad Γ 108)), some (.int p0), some (.int p1), some (.int p2)]) ⟨rfl, rfl, rfl, rfl, trivial⟩ (hj14 _ hf)
def f_X12_weight (Z : Nat) (M : Mem) (p0 : Int32) (p1 : Int32) : Option (Int32 × Mem) :=
  cl (f_X12_noAction Z M p0 p1) (fun v1 M2 => (if v1 = 0 then cl (f_X12_weightOf Z M2 p0 p1) (fun v3 M4 => some (v3, M4)) else some ((0 : Int32), M2)))
set_option maxRecDepth 100000 in
theorem c_X12_weight {Γ : WC} (hN : HN Γ) {Z : Nat} {M : Mem} {p0 : Int32} {p1 : Int32} {rM : Int32 × Mem}  (hf : f_X12_weight Z M p0 p1 = some rM) : Ct Γ yX12_weight cX12_weight 3 (some .int) (rmL 4 0 0) [.ref (wad Γ 108), .int p0, .int p1] M (some (.int rM.1)) rM.2 := by
  refine mkN hN.1 (own := RX12) rfl (by decide) (Nat.le_of_ble_eq_true rfl) (fun X C E => ?_)
  change G Γ X M 0 0 [some (.ref (wad Γ 108)), some (.int p0), some (.int p1)] [] 0
  unfold f_X12_weight at hf
  refine x_aload_n C rfl rfl (dkAt dk_X12_weight 0 rfl) 1 rfl ?_
  refine x_iload_n C rfl rfl (dkAt dk_X12_weight 1 rfl) 2 rfl ?_
  refine x_iload_n C rfl rfl (dkAt dk_X12_weight 2 rfl) 3 rfl ?_
  obtain ⟨v1, M2, h6, hf⟩ := cl_inv hf
  refine x_cVi C (c_X12_noAction hN h6) mw_X12_noAction ln_RX12_239 mi_X12_noAction (hN.rc (ci := 12) sh108 rc12) (ro_of (by decide) (by decide) (by decide) (by decide)) rfl rfl (Nat.le_of_ble_eq_true rfl) (dkAt dk_X12_weight 3 rfl) 6 rfl 0 0 rfl rfl ?_
  refine x_if_eq C 13 (dkAt dk_X12_weight 4 rfl) 9 rfl (by decide) hf (fun hf => ?_) (fun hf => ?_)
  · refine x_aload_n C rfl rfl (dkAt dk_X12_weight 7 rfl) 14 rfl ?_
    refine x_iload_n C rfl rfl (dkAt dk_X12_weight 8 rfl) 15 rfl ?_
    refine x_iload_n C rfl rfl (dkAt dk_X12_weight 9 rfl) 16 rfl ?_
    obtain ⟨v3, M4, h5, hf⟩ := cl_inv hf
    refine x_cVi C (c_X12_weightOf hN h5) mw_X12_weightOf ln_RX12_252 mi_X12_weightOf (hN.rc (ci := 12) sh108 rc12) (ro_of (by decide) (by decide) (by decide) (by decide)) rfl rfl (Nat.le_of_ble_eq_true rfl) (dkAt dk_X12_weight 10 rfl) 19 rfl 0 0 rfl rfl ?_
    exact x_iret C E hf (by decide) (by decide) (dkAt dk_X12_weight 11 rfl)
  · refine x_iconst C (v := (0 : Int32)) (by decide) (dkAt dk_X12_weight 5 rfl) 10 rfl ?_
    refine x_goto C 19 (dkAt dk_X12_weight 6 rfl) (by decide) ?_
    exact x_iret C E hf (by decide) (by decide) (dkAt dk_X12_weight 11 rfl)
def f_X12_isPermitted (Z : Nat) (M : Mem) (p0 : Int32) (p1 : Int32) : Option (Int32 × Mem) :=
  cl (f_X12_noAction Z M p0 p1) (fun v1 M2 => (if v1 = 0 then cl (f_X12_isPermittedNow Z M2 p0 p1) (fun v3 M4 => (if v3 = 0 then some ((0 : Int32), M4) else some ((1 : Int32), M4))) else some ((0 : Int32), M2)))
set_option maxRecDepth 100000 in
theorem c_X12_isPermitted {Γ : WC} (hN : HN Γ) {Z : Nat} {M : Mem} {p0 : Int32} {p1 : Int32} {rM : Int32 × Mem}  (hf : f_X12_isPermitted Z M p0 p1 = some rM) : Ct Γ yX12_isPermitted cX12_isPermitted 3 (some .boolean) (rmL 4 0 0) [.ref (wad Γ 108), .int p0, .int p1] M (some (.int rM.1)) rM.2 := by
  refine mkN hN.1 (own := RX12) rfl (by decide) (Nat.le_of_ble_eq_true rfl) (fun X C E => ?_)
  change G Γ X M 0 0 [some (.ref (wad Γ 108)), some (.int p0), some (.int p1)] [] 0
  unfold f_X12_isPermitted at hf
  refine x_aload_n C rfl rfl (dkAt dk_X12_isPermitted 0 rfl) 1 rfl ?_
  refine x_iload_n C rfl rfl (dkAt dk_X12_isPermitted 1 rfl) 2 rfl ?_
  refine x_iload_n C rfl rfl (dkAt dk_X12_isPermitted 2 rfl) 3 rfl ?_
  obtain ⟨v1, M2, h6, hf⟩ := cl_inv hf
  refine x_cVi C (c_X12_noAction hN h6) mw_X12_noAction ln_RX12_239 mi_X12_noAction (hN.rc (ci := 12) sh108 rc12) (ro_of (by decide) (by decide) (by decide) (by decide)) rfl rfl (Nat.le_of_ble_eq_true rfl) (dkAt dk_X12_isPermitted 3 rfl) 6 rfl 0 0 rfl rfl ?_
  refine x_if_ne C 22 (dkAt dk_X12_isPermitted 4 rfl) 9 rfl (by decide) hf (fun hf => ?_) (fun hf => ?_)
  · refine x_iconst C (v := (0 : Int32)) (by decide) (dkAt dk_X12_isPermitted 12 rfl) 23 rfl ?_
    exact x_zret C E (by decide) hf (by decide) (by decide) (dkAt dk_X12_isPermitted 13 rfl)
  · refine x_aload_n C rfl rfl (dkAt dk_X12_isPermitted 5 rfl) 10 rfl ?_
    refine x_iload_n C rfl rfl (dkAt dk_X12_isPermitted 6 rfl) 11 rfl ?_
    refine x_iload_n C rfl rfl (dkAt dk_X12_isPermitted 7 rfl) 12 rfl ?_
    obtain ⟨v3, M4, h5, hf⟩ := cl_inv hf
    refine x_cVi C (c_X12_isPermittedNow hN h5) mw_X12_isPermittedNow ln_RX12_255 mi_X12_isPermittedNow (hN.rc (ci := 12) sh108 rc12) (ro_of (by decide) (by decide) (by decide) (by decide)) rfl rfl (Nat.le_of_ble_eq_true rfl) (dkAt dk_X12_isPermitted 8 rfl) 15 rfl 0 0 rfl rfl ?_
    refine x_if_eq C 22 (dkAt dk_X12_isPermitted 9 rfl) 18 rfl (by decide) hf (fun hf => ?_) (fun hf => ?_)
    · refine x_iconst C (v := (0 : Int32)) (by decide) (dkAt dk_X12_isPermitted 12 rfl) 23 rfl ?_
      exact x_zret C E (by decide) hf (by decide) (by decide) (dkAt dk_X12_isPermitted 13 rfl)
    · refine x_iconst C (v := (1 : Int32)) (by decide) (dkAt dk_X12_isPermitted 10 rfl) 19 rfl ?_
      refine x_goto C 23 (dkAt dk_X12_isPermitted 11 rfl) (by decide) ?_
      exact x_zret C E (by decide) hf (by decide) (by decide) (dkAt dk_X12_isPermitted 13 rfl)
def f_X12_limit (Z : Nat) (M : Mem) (p0 : Int32) : Option (Int32 × Mem) :=
  cl (f_X12_noBudget Z M p0) (fun v1 M2 => (if v1 = 0 then rdI M2 109 54 ((40 : Int32) + p0) (fun v3 => some (v3, M2)) else some ((0 : Int32), M2)))
set_option maxRecDepth 100000 in
theorem c_X12_limit {Γ : WC} (hN : HN Γ) {Z : Nat} {M : Mem} {p0 : Int32} {rM : Int32 × Mem}  (hf : f_X12_limit Z M p0 = some rM) : Ct Γ yX12_limit cX12_limit 2 (some .int) (rmL 3 0 0) [.ref (wad Γ 108), .int p0] M (some (.int rM.1)) rM.2 := by
  refine mkN hN.1 (own := RX12) rfl (by decide) (Nat.le_of_ble_eq_true rfl) (fun X C E => ?_)
  change G Γ X M 0 0 [some (.ref (wad Γ 108)), some (.int p0)] [] 0
  unfold f_X12_limit at hf
  refine x_aload_n C rfl rfl (dkAt dk_X12_limit 0 rfl) 1 rfl ?_
  refine x_iload_n C rfl rfl (dkAt dk_X12_limit 1 rfl) 2 rfl ?_
  obtain ⟨v1, M2, h4, hf⟩ := cl_inv hf
  refine x_cVi C (c_X12_noBudget hN h4) mw_X12_noBudget ln_RX12_258 mi_X12_noBudget (hN.rc (ci := 12) sh108 rc12) (ro_of (by decide) (by decide) (by decide) (by decide)) rfl rfl (Nat.le_of_ble_eq_true rfl) (dkAt dk_X12_limit 2 rfl) 5 rfl 0 0 rfl rfl ?_
  refine x_if_eq C 12 (dkAt dk_X12_limit 3 rfl) 8 rfl (by decide) hf (fun hf => ?_) (fun hf => ?_)
  · refine x_aload_n C rfl rfl (dkAt dk_X12_limit 6 rfl) 13 rfl ?_
    refine x_getS C lk_RX12_7 (hN.sh sh108) (hN.sr sr108_2) (dkAt dk_X12_limit 7 rfl) 16 rfl ?_
    refine x_bipush C (v := (40 : Int32)) (by decide) (dkAt dk_X12_limit 8 rfl) 18 rfl ?_
    refine x_iload_n C rfl rfl (dkAt dk_X12_limit 9 rfl) 19 rfl ?_
    refine x_iadd C (dkAt dk_X12_limit 10 rfl) 20 rfl ?_
    refine x_iald C (hN.sh sh109) (dkAt dk_X12_limit 11 rfl) 21 rfl hf (fun v3 hf => ?_)
    exact x_iret C E hf (by decide) (by decide) (dkAt dk_X12_limit 12 rfl)
  · refine x_iconst C (v := (0 : Int32)) (by decide) (dkAt dk_X12_limit 4 rfl) 9 rfl ?_
    refine x_goto C 21 (dkAt dk_X12_limit 5 rfl) (by decide) ?_
    exact x_iret C E hf (by decide) (by decide) (dkAt dk_X12_limit 12 rfl)
