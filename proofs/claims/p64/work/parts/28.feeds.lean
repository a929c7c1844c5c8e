/-! the text that is fed -/
noncomputable def tLen {β : Type} (M : Mem) (k : Int32 → Option β) : Option β := @ite _ (∃ n, TXM M n) (Classical.propDecidable _) (k (nI (vlen M 213))) none
noncomputable def tAt {β : Type} (M : Mem) (i : Int32) (k : Int32 → Option β) : Option β := @ite _ ((∃ n, TXM M n) ∧ ¬ i < 0 ∧ i.toNatClampNeg < vlen M 213) (Classical.propDecidable _) (k (gI M 213 i.toNatClampNeg)) none
section Txt
variable {Γ : WC} {X : MX} {M : Mem} {c mc r lev : Nat} {L : List (Option Value)} {st : List Value} {pc : Nat} {cc : ByteArray} {nL : Nat} {own : String} {ret : Option FieldType} {β : Type} {rM : β} {idx : Nat}
theorem x_tLen {k : Int32 → Option β} (C : CX Γ X cc nL own ret (rmL lev mc (r * mc))) (hS : HTX Γ) (ln : Gd (.methodLink own idx yJ0_length_8abf5)) (hl : 6 ≤ lev) (hr : 1 ≤ r) (hc : c + 0 ≤ mc) (hf : tLen M k = some rM) (hw : (st.map fun v => v.category).sum ≤ 8) (d : decode cc pc = .ok (.invokevirtual idx, 3)) (q : Nat) (hq : pc + 3 = q) (K : ∀ v, k v = some rM → G Γ X M c (r * c) L (.int v :: st) q) : G Γ X M c (r * c) L (.ref (wad Γ 212) :: st) pc := by
  obtain ⟨⟨n, hB⟩, hf⟩ := if_some hf
  rw [hB.2.1] at hf
  exact x_cVi C (cd_length hS hB) mw_J0_length_8abf5 ln mi_J0_length_8abf5 (show RC Γ 212 RJ0 from ⟨14, 4, _, hS.2.1, rc14, rfl⟩) (ro_c (by omega) (by decide) hc (by omega)) rfl rfl hw d q hq c (r * c) rfl rfl (K _ hf)
theorem x_tAt {i : Int32} {k : Int32 → Option β} (C : CX Γ X cc nL own ret (rmL lev mc (r * mc))) (hS : HTX Γ) (ln : Gd (.methodLink own idx yJ0_charAt_5068e)) (hl : 6 ≤ lev) (hr : 1 ≤ r) (hc : c + 0 ≤ mc) (hf : tAt M i k = some rM) (hw : (st.map fun v => v.category).sum ≤ 8) (d : decode cc pc = .ok (.invokevirtual idx, 3)) (q : Nat) (hq : pc + 3 = q) (K : ∀ v, k v = some rM → G Γ X M c (r * c) L (.int v :: st) q) : G Γ X M c (r * c) L (.int i :: .ref (wad Γ 212) :: st) pc := by
  obtain ⟨⟨⟨n, hB⟩, h0, h1⟩, hf⟩ := if_some hf
  obtain ⟨j, hj, rfl⟩ := nI_of h0
  rw [nI_clamp hj] at h1 hf
  rw [hB.2.1] at h1
  obtain ⟨c9, h128, hc9⟩ := hB.2.2.2 j h1
  rw [hc9] at hf
  exact x_cVi C (cd_charAt hS hB h1 ⟨hc9, h128⟩) mw_J0_charAt_5068e ln mi_J0_charAt_5068e (show RC Γ 212 RJ0 from ⟨14, 4, _, hS.2.1, rc14, rfl⟩) (ro_c (by omega) (by decide) hc (by omega)) rfl rfl hw d q hq c (r * c) rfl rfl (K _ hf)
end Txt
theorem HN.ext {Γ : WC} {K : Mem → Prop} {ad ad1 : Nat → Nat} {l T : List Nat} (h : HN (gc Γ K ad l)) (hn : (l ++ T).Nodup) : HN (gc Γ K ad1 (l ++ T)) := ⟨h.1, fun o e ho => og hn (List.mem_append_left _ (h.2.1 o e ho).1) (h.2.1 o e ho).2.2, h.2.2.1, h.2.2.2.1, h.2.2.2.2⟩
theorem HTX.ext {Γ : WC} {K : Mem → Prop} {ad ad1 : Nat → Nat} {l T : List Nat} (h : HTX (gc Γ K ad l)) (hn : (l ++ T).Nodup) : HTX (gc Γ K ad1 (l ++ T)) := ⟨h.1, og hn (List.mem_append_left _ h.2.1.1) h.2.1.2.2, og hn (List.mem_append_left _ h.2.2.1.1) h.2.2.1.2.2, h.2.2.2⟩
theorem ln_RL_7 : Gd (.methodLink RL 7 yJ0_length_8abf5) := gd 816 (by decide +kernel) rfl
theorem ln_RL_13 : Gd (.methodLink RL 13 yJ0_charAt_5068e) := gd 817 (by decide +kernel) rfl
theorem ln_RL_17 : Gd (.methodLink RL 17 yX11_append) := gd 835 (by decide +kernel) rfl
theorem ln_RL_23 : Gd (.methodLink RL 23 yL_feeds) := gd 813 (by decide +kernel) rfl
theorem ln_RL_29 : Gd (.methodLink RL 29 yX11_load) := gd 847 (by decide +kernel) rfl
theorem mw_L_feeds : MW yL_feeds cL_feeds 5 (some .boolean) 2 := ⟨gd 46 (by decide +kernel) rfl, gd 815 (by decide +kernel) rfl, ⟨by decide, by decide⟩, by decide +kernel⟩
theorem mw_X11_append : MW yX11_append cX11_append 6 (some .int) 5 := ⟨gd 61 (by decide +kernel) rfl, gd 838 (by decide +kernel) rfl, ⟨by decide, by decide⟩, by decide +kernel⟩
theorem mw_X11_load : MW yX11_load cX11_load 3 (some .int) 1 := ⟨gd 61 (by decide +kernel) rfl, gd 850 (by decide +kernel) rfl, ⟨by decide, by decide⟩, by decide +kernel⟩
theorem mi_X11_append : (Gd (.instanceMethod yX11_append) ∧ Gd (.selects yX11_append.cls yX11_append yX11_append)) := ⟨gd 836 (by decide +kernel) rfl, gd 837 (by decide +kernel) rfl⟩
theorem mi_X11_load : (Gd (.instanceMethod yX11_load) ∧ Gd (.selects yX11_load.cls yX11_load yX11_load)) := ⟨gd 848 (by decide +kernel) rfl, gd 849 (by decide +kernel) rfl⟩
theorem ms_L_feeds : Gd (.static yL_feeds) := gd 814 (by decide +kernel) rfl
noncomputable def f_L_feeds_L17 (sh : Nat → Option SE) (Z : Nat) (w9 : Nat) (p0 : Int32) (c : Nat) (k : Mem → Option (Int32 × Mem)) : Nat → Int32 → Mem → Option (Int32 × Mem)
  | 0, _, _ => none
  | n + 1, x1, M2 => (if (20 : Int32) ≤ x1 then k M2 else nzI (4 : Int32) (nzI (4 : Int32) (rdI M2 w9 5 (x1 / (4 : Int32)) (fun v3 => (if c + 0 ≤ 400 then tLen M2 (fun v4 => jn (fun (t5 : Int32) => wrI M2 w9 5 (x1 / (4 : Int32)) ((v3 <<< ((8 : Int32) &&& 31)) ||| t5) (fun M6 => f_L_feeds_L17 sh Z w9 p0 c k n (x1 + (1 : Int32)) M6)) (fun j7 => (if v4 ≤ (p0 + x1) then j7 (32 : Int32) else (if c + 0 ≤ 400 then tAt M2 (p0 + x1) (fun v8 => j7 v8) else none)))) else none)))))
noncomputable def f_L_feeds_i (sh : Nat → Option SE) (Z : Nat) (p0 : Int32) (w9 c : Nat) (kx : Mem → Nat → Option (Int32 × Mem)) (M : Mem) : Option (Int32 × Mem) :=
  f_L_feeds_L17 sh Z w9 p0 c (fun (M9 : Mem) => rdI M9 w9 5 (0 : Int32) (fun v10 => rdI M9 w9 5 (1 : Int32) (fun v11 => rdI M9 w9 5 (2 : Int32) (fun v12 => rdI M9 w9 5 (3 : Int32) (fun v13 => rdI M9 w9 5 (4 : Int32) (fun v14 => (if c + 0 ≤ 400 then cl (f_X11_append Z M9 v10 v11 v12 v13 v14) (fun v15 M16 => (if v15 = (p0 + (20 : Int32)) then kx M16 c else none)) else none))))))) Z (0 : Int32) M
set_option maxRecDepth 100000 in
theorem l_L_feeds_L17 {Γ : WC} {X : MX} {sh : Nat → Option SE} (hN : HN Γ) (hC : NC Γ) (hL : HLa Γ sh) (hS : HTX Γ) (C : CX Γ X cL_feeds 5 RL (some .boolean) (rmL 60 400 (6 * 400))) {rM : Int32 × Mem} (E : True) {Z : Nat} {w9 : Nat} {p0 : Int32} {c : Nat} (h_w9 : On Γ w9 (0, 5)) {k : Mem → Option (Int32 × Mem)} (hk : ∀  (Mx : Mem), k Mx = some rM → G Γ X Mx c (6 * c) [some (.ref (wad Γ 0)), some (.ref (wad Γ 212)), some (.int p0), some (.ref (wad Γ w9))] [] 70) : ∀ (n : Nat) (x1 : Int32) (M2 : Mem), f_L_feeds_L17 sh Z w9 p0 c k n x1 M2 = some rM → G Γ X M2 c (6 * c) [some (.ref (wad Γ 0)), some (.ref (wad Γ 212)), some (.int p0), some (.ref (wad Γ w9)), some (.int x1)] [] 17 := by
  intro n
  induction n with
  | zero =>
    intro x1 M2 hf
    have hf0 : (none : Option _) = some rM := hf
    cases hf0
  | succ n ih =>
    intro x1 M2 hf
    rw [f_L_feeds_L17] at hf
    refine x_iload C rfl (dkAt dk_L_feeds 11 rfl) 19 rfl ?_
    refine x_bipush C (v := (20 : Int32)) (by decide) (dkAt dk_L_feeds 12 rfl) 21 rfl ?_
    refine x_icmp_ge C 70 (dkAt dk_L_feeds 13 rfl) 24 rfl (by decide) hf (fun hf => ?_) (fun hf => ?_)
    · exact G.weak (L := [some (.ref (wad Γ 0)), some (.ref (wad Γ 212)), some (.int p0), some (.ref (wad Γ w9))]) ⟨rfl, rfl, rfl, rfl, trivial⟩ (hk _ hf)
    · refine x_aload_n C rfl rfl (dkAt dk_L_feeds 14 rfl) 25 rfl ?_
      refine x_iload C rfl (dkAt dk_L_feeds 15 rfl) 27 rfl ?_
      refine x_iconst C (v := (4 : Int32)) (by decide) (dkAt dk_L_feeds 16 rfl) 28 rfl ?_
      refine x_idiv C (dkAt dk_L_feeds 17 rfl) 29 rfl hf (fun hf => ?_)
      refine x_aload_n C rfl rfl (dkAt dk_L_feeds 18 rfl) 30 rfl ?_
      refine x_iload C rfl (dkAt dk_L_feeds 19 rfl) 32 rfl ?_
      refine x_iconst C (v := (4 : Int32)) (by decide) (dkAt dk_L_feeds 20 rfl) 33 rfl ?_
      refine x_idiv C (dkAt dk_L_feeds 21 rfl) 34 rfl hf (fun hf => ?_)
      refine x_iald C h_w9 (dkAt dk_L_feeds 22 rfl) 35 rfl hf (fun v3 hf => ?_)
      refine x_bipush C (v := (8 : Int32)) (by decide) (dkAt dk_L_feeds 23 rfl) 37 rfl ?_
      refine x_ishl C (dkAt dk_L_feeds 24 rfl) 38 rfl ?_
      refine x_iload_n C rfl rfl (dkAt dk_L_feeds 25 rfl) 39 rfl ?_
      refine x_iload C rfl (dkAt dk_L_feeds 26 rfl) 41 rfl ?_
      refine x_iadd C (dkAt dk_L_feeds 27 rfl) 42 rfl ?_
      refine x_aload_n C rfl rfl (dkAt dk_L_feeds 28 rfl) 43 rfl ?_
      obtain ⟨hc, hf⟩ := if_some hf
      refine x_tLen C hS ln_RL_7 (by decide) (by decide) hc hf (Nat.le_of_ble_eq_true rfl) (dkAt dk_L_feeds 29 rfl) 46 rfl (fun v4 hf => ?_)
      refine x_join hf (fun t5 => G Γ X M2 c (6 * c) [some (.ref (wad Γ 0)), some (.ref (wad Γ 212)), some (.int p0), some (.ref (wad Γ w9)), some (.int x1)] [.int t5, .int (v3 <<< ((8 : Int32) &&& 31)), .int (x1 / (4 : Int32)), .ref (wad Γ w9)] 62) (fun t5 hf => ?_) (fun j7 hj7 hf => ?_)
      · refine x_ior C (dkAt dk_L_feeds 38 rfl) 63 rfl ?_
        refine x_iast C h_w9 (dkAt dk_L_feeds 39 rfl) 64 rfl hf (fun M6 hf => ?_)
        refine x_iinc C (v := (x1 + (1 : Int32))) (L1 := [some (.ref (wad Γ 0)), some (.ref (wad Γ 212)), some (.int p0), some (.ref (wad Γ w9)), some (.int (x1 + (1 : Int32)))]) (dkAt dk_L_feeds 40 rfl) 67 rfl rfl rfl (by decide) rfl ?_
        refine x_goto C 17 (dkAt dk_L_feeds 41 rfl) (by decide) ?_
        exact G.weak (L := [some (.ref (wad Γ 0)), some (.ref (wad Γ 212)), some (.int p0), some (.ref (wad Γ w9)), some (.int (x1 + (1 : Int32)))]) ⟨rfl, rfl, rfl, rfl, rfl, trivial⟩ (ih _ _ hf)
      · refine x_icmp_ge C 60 (dkAt dk_L_feeds 30 rfl) 49 rfl (by decide) hf (fun hf => ?_) (fun hf => ?_)
        · refine x_bipush C (v := (32 : Int32)) (by decide) (dkAt dk_L_feeds 37 rfl) 62 rfl ?_
          exact G.weak (L := [some (.ref (wad Γ 0)), some (.ref (wad Γ 212)), some (.int p0), some (.ref (wad Γ w9)), some (.int x1)]) ⟨rfl, rfl, rfl, rfl, rfl, trivial⟩ (hj7 _ hf)
        · refine x_aload_n C rfl rfl (dkAt dk_L_feeds 31 rfl) 50 rfl ?_
          refine x_iload_n C rfl rfl (dkAt dk_L_feeds 32 rfl) 51 rfl ?_
          refine x_iload C rfl (dkAt dk_L_feeds 33 rfl) 53 rfl ?_
          refine x_iadd C (dkAt dk_L_feeds 34 rfl) 54 rfl ?_
          obtain ⟨hc, hf⟩ := if_some hf
          refine x_tAt C hS ln_RL_13 (by decide) (by decide) hc hf (Nat.le_of_ble_eq_true rfl) (dkAt dk_L_feeds 35 rfl) 57 rfl (fun v8 hf => ?_)
          refine x_goto C 62 (dkAt dk_L_feeds 36 rfl) (by decide) ?_
          exact G.weak (L := [some (.ref (wad Γ 0)), some (.ref (wad Γ 212)), some (.int p0), some (.ref (wad Γ w9)), some (.int x1)]) ⟨rfl, rfl, rfl, rfl, rfl, trivial⟩ (hj7 _ hf)
set_option maxRecDepth 100000 in
theorem i_L_feeds {Γ : WC} {X : MX} {sh : Nat → Option SE} (hN : HN Γ) (hC : NC Γ) (hL : HLa Γ sh) (hS : HTX Γ) (C : CX Γ X cL_feeds 5 RL (some .boolean) (rmL 60 400 (6 * 400))) {rM : Int32 × Mem} (E : True) {Z w9 c : Nat} {p0 : Int32} (h_w9 : On Γ w9 (0, 5)) {kx : Mem → Nat → Option (Int32 × Mem)} {M : Mem} (hkx : ∀ M1 c1, kx M1 c1 = some rM → G Γ X M1 c1 (6 * c1) [some (.ref (wad Γ 0)), some (.ref (wad Γ 212)), some (.int p0)] [] 98) (hf : f_L_feeds_i sh Z p0 w9 c kx M = some rM) : G Γ X M c (6 * c) [some (.ref (wad Γ 0)), some (.ref (wad Γ 212)), some (.int p0), some (.ref (wad Γ w9))] [] 14 := by
  unfold f_L_feeds_i at hf
  refine x_iconst C (v := (0 : Int32)) (by decide) (dkAt dk_L_feeds 9 rfl) 15 rfl ?_
  refine x_istore C (L1 := [some (.ref (wad Γ 0)), some (.ref (wad Γ 212)), some (.int p0), some (.ref (wad Γ w9)), some (.int (0 : Int32))]) (dkAt dk_L_feeds 10 rfl) 17 rfl (by decide) rfl ?_
  refine G.weak (L := [some (.ref (wad Γ 0)), some (.ref (wad Γ 212)), some (.int p0), some (.ref (wad Γ w9)), some (.int (0 : Int32))]) ⟨rfl, rfl, rfl, rfl, rfl, trivial⟩ ?_
  refine l_L_feeds_L17 hN hC hL hS C E h_w9 ?_ Z _ _ hf
  intro M9 hf
  refine x_aload_n C rfl rfl (dkAt dk_L_feeds 42 rfl) 71 rfl ?_
  refine x_aload_n C rfl rfl (dkAt dk_L_feeds 43 rfl) 72 rfl ?_
  refine x_iconst C (v := (0 : Int32)) (by decide) (dkAt dk_L_feeds 44 rfl) 73 rfl ?_
  refine x_iald C h_w9 (dkAt dk_L_feeds 45 rfl) 74 rfl hf (fun v10 hf => ?_)
  refine x_aload_n C rfl rfl (dkAt dk_L_feeds 46 rfl) 75 rfl ?_
  refine x_iconst C (v := (1 : Int32)) (by decide) (dkAt dk_L_feeds 47 rfl) 76 rfl ?_
  refine x_iald C h_w9 (dkAt dk_L_feeds 48 rfl) 77 rfl hf (fun v11 hf => ?_)
  refine x_aload_n C rfl rfl (dkAt dk_L_feeds 49 rfl) 78 rfl ?_
  refine x_iconst C (v := (2 : Int32)) (by decide) (dkAt dk_L_feeds 50 rfl) 79 rfl ?_
  refine x_iald C h_w9 (dkAt dk_L_feeds 51 rfl) 80 rfl hf (fun v12 hf => ?_)
  refine x_aload_n C rfl rfl (dkAt dk_L_feeds 52 rfl) 81 rfl ?_
  refine x_iconst C (v := (3 : Int32)) (by decide) (dkAt dk_L_feeds 53 rfl) 82 rfl ?_
  refine x_iald C h_w9 (dkAt dk_L_feeds 54 rfl) 83 rfl hf (fun v13 hf => ?_)
  refine x_aload_n C rfl rfl (dkAt dk_L_feeds 55 rfl) 84 rfl ?_
  refine x_iconst C (v := (4 : Int32)) (by decide) (dkAt dk_L_feeds 56 rfl) 85 rfl ?_
  refine x_iald C h_w9 (dkAt dk_L_feeds 57 rfl) 86 rfl hf (fun v14 hf => ?_)
  obtain ⟨hc, hf⟩ := if_some hf
  obtain ⟨v15, M16, h17, hf⟩ := cl_inv hf
  refine x_cVi C (c_X11_append hN h17) mw_X11_append ln_RL_17 mi_X11_append (hN.rc (ci := 11) sh0 rc11) (ro_c (k := 0) (by decide) (by decide) hc (by decide)) rfl rfl (Nat.le_of_ble_eq_true rfl) (dkAt dk_L_feeds 58 rfl) 89 rfl c (6 * c) rfl (by show 6 * c + 0 = _; omega) ?_
  refine x_iload_n C rfl rfl (dkAt dk_L_feeds 59 rfl) 90 rfl ?_
  refine x_bipush C (v := (20 : Int32)) (by decide) (dkAt dk_L_feeds 60 rfl) 92 rfl ?_
  refine x_iadd C (dkAt dk_L_feeds 61 rfl) 93 rfl ?_
  refine x_icmp_eq C 98 (dkAt dk_L_feeds 62 rfl) 96 rfl (by decide) hf (fun hf => ?_) (fun hf => ?_)
  · exact G.weak (L := [some (.ref (wad Γ 0)), some (.ref (wad Γ 212)), some (.int p0)]) ⟨rfl, rfl, rfl, trivial⟩ (hkx _ _ hf)
  · refine x_iconst C (v := (0 : Int32)) (by decide) (dkAt dk_L_feeds 63 rfl) 97 rfl ?_
    exact nomatch hf
noncomputable def f_L_feeds_o (sh : Nat → Option SE) (Z : Nat) : Nat → Mem → Int32 → Nat → Option (Int32 × Mem)
  | 0, _, _, _ => none
  | n + 1, M, i, c => if c + 0 ≤ 400 then tLen M (fun v => if v ≤ i then some (1, M) else @ite _ (c + 1 ≤ 400 ∧ zeroM 360 M) (Classical.propDecidable _) (f_L_feeds_i sh Z i 360 (c + 1) (fun M1 c1 => f_L_feeds_o sh Z n (zapT M1) (i + 20) c1) M) none) else none
noncomputable def f_L_feeds (sh : Nat → Option SE) (Z : Nat) (M : Mem) : Option (Int32 × Mem) := f_L_feeds_o sh Z Z M 0 0
set_option maxRecDepth 100000 in
theorem o_L_feeds {Γ : WC} {K : Mem → Prop} {ad : Nat → Nat} {l : List Nat} {sh : Nat → Option SE} (hN : HN (gc Γ K ad l)) (hC : NC Γ) (hL : HLa (gc Γ K ad l) sh) (hS : HTX (gc Γ K ad l)) (hK9 : KR K) (hnd : l.Nodup) (hl : ∀ o, o ∈ l → o < 300) (hr : ∀ M, K M → ∀ o k j, gR M o k = some j → j < 300 ∨ j = 999) {X : MX} (C : CX Γ X cL_feeds 5 RL (some .boolean) (rmL 60 400 (6 * 400))) {rM : Int32 × Mem} (E : EndN (gc Γ K ad l) X (some (.int rM.1)) rM.2 400 (6 * 400)) {Z : Nat} : ∀ (n : Nat) (M : Mem) (i : Int32) (c : Nat), f_L_feeds_o sh Z n M i c = some rM → G (gc Γ K ad l) X M c (6 * c) [some (.ref (ad 0)), some (.ref (ad 212)), some (.int i)] [] 2 := by
  intro n
  induction n with
  | zero =>
    intro M i c hf
    exact nomatch (show (none : Option _) = some rM from hf)
  | succ n ih =>
    intro M i c hf
    rw [f_L_feeds_o] at hf
    obtain ⟨hc, hf⟩ := if_some hf
    have C1 := C.gc hK9 ad l
    have hnd2 : (l ++ [360]).Nodup := l3_nd hnd (fun z => by have := hl _ z; omega)
    refine x_iload_n C1 rfl rfl (dkAt dk_L_feeds 2 rfl) 3 rfl ?_
    refine x_aload_n C1 rfl rfl (dkAt dk_L_feeds 3 rfl) 4 rfl ?_
    refine x_tLen C1 hS ln_RL_7 (by decide) (by decide) hc hf (Nat.le_of_ble_eq_true rfl) (dkAt dk_L_feeds 4 rfl) 7 rfl (fun v hf => ?_)
    refine x_icmp_ge C1 104 (dkAt dk_L_feeds 5 rfl) 10 rfl (by decide) hf (fun hf => ?_) (fun hf => ?_)
    · refine x_iconst C1 (v := (1 : Int32)) (by decide) (dkAt dk_L_feeds 67 rfl) 105 rfl ?_
      exact x_zret C1 E (by decide) hf (by omega) (by omega) (dkAt dk_L_feeds 68 rfl)
    · obtain ⟨⟨hc1, hz9⟩, hf⟩ := if_some hf
      refine x_iconst C1 (v := (5 : Int32)) (by decide) (dkAt dk_L_feeds 6 rfl) 11 rfl ?_
      refine d_newt (n := 360) (k := 0) (N := 5) (ty := .int) C rfl (by decide) rfl ka_int rfl (fun _ => rfl) ⟨by decide, by decide, by decide⟩ (fun hKM => ⟨⟨fun z => by have := hl _ z; omega, by decide⟩, hz9, fun o ho i z => by have := hr M hKM o i _ z; omega⟩) ⟨by show c + 1 ≤ 400; omega, by show 6 * c + 5 ≤ 6 * 400; omega⟩ (dkAt dk_L_feeds 7 rfl) 13 rfl rfl rfl (fun p9 => ?_)
      have had2 : ∀ o, o < 320 ∨ o = 999 → adu ad 360 p9 o = ad o := fun o ho => adu_ne (by omega)
      refine G.wide (cs1 := c + 1) (sl1 := 6 * (c + 1)) (by omega) (by omega) ?_
      have e0 : adu ad 360 p9 0 = ad 0 := adu_ne (by omega)
      have e1 : adu ad 360 p9 212 = ad 212 := adu_ne (by omega)
      have en : adu ad 360 p9 360 = p9 := adu_n
      generalize adu ad 360 p9 = ad2 at *
      rw [← e0, ← e1, ← en]
      have C2 := C.gc hK9 ad2 (l ++ [360])
      have onw : On (gc Γ K ad2 (l ++ [360])) 360 (0, 5) := og hnd2 (List.mem_append_right _ (List.mem_singleton.mpr rfl)) rfl
      refine x_astore_n C2 (L1 := [some (.ref (ad2 0)), some (.ref (ad2 212)), some (.int i), some (.ref (ad2 360))]) (dkAt dk_L_feeds 8 rfl) 14 rfl rfl (by decide) rfl ?_
      refine i_L_feeds (hN.ext hnd2) hC (hL.ext hnd2) (hS.ext hnd2) C2 trivial onw (fun M1 c1 hf => ?_) hf
      change G (gc Γ K ad2 (l ++ [360])) X M1 c1 (6 * c1) [some (.ref (ad2 0)), some (.ref (ad2 212)), some (.int i)] [] 98
      refine G.drop hK9 had2 hl (hr M1) ?_
      rw [e0, e1]
      refine x_iinc C1 (v := (i + (20 : Int32))) (L1 := [some (.ref (ad 0)), some (.ref (ad 212)), some (.int (i + (20 : Int32)))]) (dkAt dk_L_feeds 65 rfl) 101 rfl rfl rfl (by decide) rfl ?_
      refine x_goto C1 2 (dkAt dk_L_feeds 66 rfl) (by decide) ?_
      exact ih _ _ _ hf
set_option maxRecDepth 100000 in
theorem c_L_feeds {Γ : WC} {sh : Nat → Option SE} (hN : HN Γ) (hC : NC Γ) (hF : HF Γ) (hL : HLa Γ sh) (hS : HTX Γ) {Z : Nat} {M : Mem} {rM : Int32 × Mem} (hf : f_L_feeds sh Z M = some rM) : Ct Γ yL_feeds cL_feeds 5 (some .boolean) (rmL 60 400 (6 * 400)) [.ref (wad Γ 0), .ref (wad Γ 212)] M (some (.int rM.1)) rM.2 := by
  refine mkN hL.1.1 (own := RL) rfl (by decide) (Nat.le_of_ble_eq_true rfl) (fun X C E => ?_)
  have e := gc_eta hF.1
  change G Γ X M 0 0 [some (.ref (wad Γ 0)), some (.ref (wad Γ 212))] [] 0
  refine x_iconst C (v := (0 : Int32)) (by decide) (dkAt dk_L_feeds 0 rfl) 1 rfl ?_
  refine x_istore_n C (L1 := [some (.ref (wad Γ 0)), some (.ref (wad Γ 212)), some (.int (0 : Int32))]) (dkAt dk_L_feeds 1 rfl) 2 rfl rfl (by decide) rfl ?_
  have h := o_L_feeds (Γ := Γ) (K := wK Γ) (ad := wad Γ) (l := wnl Γ) (by rw [e]; exact hN) hC (by rw [e]; exact hL) (by rw [e]; exact hS) hL.1.1.kw hF.2.1 hF.2.2.1 hF.2.2.2 (X := X) C (rM := rM) (by rw [e]; exact E) (Z := Z) Z M 0 0 hf
  rw [e] at h
  exact h
noncomputable def f_L_tell (sh : Nat → Option SE) (Z : Nat) (M : Mem)  : Option (Int32 × Mem) :=
  (if 0 + 400 ≤ 460 then cl (f_L_feeds sh Z M) (fun v1 M2 => (if v1 = 0 then (if (0 + 400) ≤ 460 then some ((-9 : Int32), M2) else none) else (if (0 + 400) + 0 ≤ 460 then tLen M2 (fun v4 => (if (0 + 400) + 1 ≤ 460 then clT (f_X11_load Z M2 v4) (fun v5 M6 => (if ((0 + 400) + 1) ≤ 460 then some (v5, M6) else none)) (fun _ _ => none) else none)) else none))) else none)
set_option maxRecDepth 100000 in
theorem c_L_tell {Γ : WC} {sh : Nat → Option SE} (hN : HN Γ) (hC : NC Γ) (hF : HF Γ) (hL : HLa Γ sh) (hS : HTX Γ) {Z : Nat} {M : Mem}  {rM : Int32 × Mem} (hf : f_L_tell sh Z M  = some rM) : Ct Γ yL_tell cL_tell 2 (some .int) (rmL 61 460 (6 * 460)) [.ref (wad Γ 0), .ref (wad Γ 212)] M (some (.int rM.1)) rM.2 := by
  refine mkN hL.1.1 (own := RL) rfl (by decide) (Nat.le_of_ble_eq_true rfl) (fun X C E => ?_)
  change G Γ X M (0) (6 * (0)) [some (.ref (wad Γ 0)), some (.ref (wad Γ 212))] [] 0
  unfold f_L_tell at hf
  refine x_aload_n C rfl rfl (dkAt dk_L_tell 0 rfl) 1 rfl ?_
  refine x_aload_n C rfl rfl (dkAt dk_L_tell 1 rfl) 2 rfl ?_
  obtain ⟨hc, hf⟩ := if_some hf
  obtain ⟨v1, M2, h3, hf⟩ := cl_inv hf
  refine x_cSi C (c_L_feeds hN hC hF hL hS h3) mw_L_feeds ln_RL_23 ms_L_feeds (ro_c (k := 400) (by decide) (by decide) hc (by decide)) rfl rfl (Nat.le_of_ble_eq_true rfl) (dkAt dk_L_tell 2 rfl) 5 rfl (0 + 400) (6 * (0 + 400)) rfl (Nat.mul_add _ _ _).symm ?_
  change G Γ X M2 (0 + 400) (6 * (0 + 400)) [some (.ref (wad Γ 0)), some (.ref (wad Γ 212))] [.int v1] 5
  refine x_if_eq C 19 (dkAt dk_L_tell 3 rfl) 8 rfl (by decide) hf (fun hf => ?_) (fun hf => ?_)
  · refine x_bipush C (v := (-9 : Int32)) (by decide) (dkAt dk_L_tell 9 rfl) 21 rfl ?_
    obtain ⟨hc9, hf⟩ := if_some hf
    exact x_iret C E hf hc9 (Nat.mul_le_mul_left _ hc9) (dkAt dk_L_tell 10 rfl)
  · refine x_aload_n C rfl rfl (dkAt dk_L_tell 4 rfl) 9 rfl ?_
    refine x_aload_n C rfl rfl (dkAt dk_L_tell 5 rfl) 10 rfl ?_
    obtain ⟨hc, hf⟩ := if_some hf
    refine x_tLen C hS ln_RL_7 (by decide) (by decide) hc hf (Nat.le_of_ble_eq_true rfl) (dkAt dk_L_tell 6 rfl) 13 rfl (fun v4 hf => ?_)
    obtain ⟨hc, hf⟩ := if_some hf
    refine h_cVi C hf (fun r hr => c_X11_load hN hr) mw_X11_load ln_RL_29 mi_X11_load (hN.rc (ci := 11) sh0 rc11) (ro_c (k := 1) (by decide) (by decide) hc (by decide)) rfl rfl (Nat.le_of_ble_eq_true rfl) (dkAt dk_L_tell 7 rfl) 16 rfl ((0 + 400) + 1) (6 * ((0 + 400) + 1)) rfl (by show 6 * (0 + 400) + 6 = _; omega) (fun v5 M6 hf => ?_) (fun _ _ h => nomatch h)
    refine x_goto C 21 (dkAt dk_L_tell 8 rfl) (by decide) ?_
    obtain ⟨hc9, hf⟩ := if_some hf
    exact x_iret C E hf hc9 (Nat.mul_le_mul_left _ hc9) (dkAt dk_L_tell 10 rfl)
