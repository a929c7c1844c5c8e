theorem c_X13_init {Γ : WC} (hG : HG Γ) {M : Mem} : CtD Γ KT KT yX13_init cX13_init 2 none (rmL 1 0 0) [108] [108] [.inr 108, .inr 999] M none (sR M 108 0 (some 999)) := by
  refine mkD hG (own := RX13) rfl (by decide) (fun ad => Nat.le_of_ble_eq_true rfl) (fun ad X C hI E => ?_)
  have C0 := C.gc KR.tt ad [108]
  change G (gc Γ KT ad [108]) X M 0 0 [some (.ref (wad (gc Γ KT ad [108]) 108)), some (.ref (wad (gc Γ KT ad [108]) 999))] [] 0
  refine x_aload_n C0 rfl rfl (dkAt dk_X13_init 0 rfl) 1 rfl ?_
  refine d_obj C lo_RX13_1 mi_obj cw_obj ⟨by decide, by decide⟩ (Nat.le_of_ble_eq_true rfl) (dkAt dk_X13_init 1 rfl) 4 rfl ?_
  refine x_aload_n C0 rfl rfl (dkAt dk_X13_init 2 rfl) 5 rfl ?_
  refine x_aload_n C0 rfl rfl (dkAt dk_X13_init 3 rfl) 6 rfl ?_
  refine x_putFR C0 (hI rfl) (kk := some) (rM := sR M 108 0 (some 999)) (fun _ _ => trivial) pkf_RX13_7 ⟨_, rfl⟩ (og (by decide) (by decide) rfl) (dkAt dk_X13_init 4 rfl) 9 rfl rfl (fun M1 hM => ?_)
  cases hM
  exact d_vret C E agr.rfl (fun h => h) (Nat.zero_le _) (Nat.zero_le _) (dkAt dk_X13_init 5 rfl)
def mem0 : Mem := (fun _ _ => 0, fun _ _ => 0, fun _ _ => none)
def mem1 : Mem := sR mem0 108 0 (some 999)
theorem mem1_R (o k j : Nat) (h : gR mem1 o k = some j) : o = 108 ∧ k = 0 ∧ j = 999 := by
  unfold mem1 at h
  rw [gR_sR] at h
  split at h
  · rename_i z
    have := Option.some.inj h
    omega
  · exact nomatch h
theorem mem1_ZE : ZE mem1 := ⟨fun o ho => ⟨fun _ => rfl, fun _ => rfl, fun k => by
  unfold mem1
  rw [gR_sR, if_neg (fun z => ho z.1)]
  rfl⟩, mem1_R, rfl⟩
noncomputable def f_law_l (Z LX : Nat) (xs : Nat → Int32) : Nat → Mem → Nat → Int32 → Nat → Option (Unit × Mem)
  | 0, _, _, _, _ => none
  | n + 1, M, b, t, c => if 214 ≤ b ∧ b < 300 then f_law_c (shB b) Z t (fun M1 c1 => f_law_e (shB b) Z (fun M => some ((), M)) M1 c1) (fun t2 M1 c1 => if c1 + 80 ≤ 290000 then cl (f_L_act b Z LX xs M1) (fun b2 M2 => if 214 ≤ b2 ∧ b2 < 300 then f_law_d (shB b2) Z t2 (fun t3 M3 c3 => f_law_l Z LX xs n M3 b2 t3 c3) M2 (c1 + 80) else none) else none) M c else none
noncomputable def f_law (Z LX : Nat) (xs : Nat → Int32) : Option (Unit × Mem) := cl (f_X12_init_t shL Z LX xs (mH mem1)) (fun _ M2 => @ite _ (Zc 0 M2 ∧ KB 212 (mmC M2)) (Classical.propDecidable _) (f_law_a (shB 212) Z (fun a4 M3 c3 => @ite _ ((∃ n m, SBM M3 n m) ∧ zeroM 212 M3 ∧ zeroM 213 M3 ∧ c3 + 400 ≤ 290000) (Classical.propDecidable _) (f_law_b (shB 214) Z LX xs a4 (fun t M5 c5 => f_law_l Z LX xs Z M5 214 t c5) (tsM M3 (gI M3 210 3).toNatClampNeg) (c3 + 400)) none) (fun _ => none) (mmC M2) 262000) none)
set_option maxRecDepth 100000 in
theorem c_law_l {Γ : WC} (hT : HT Γ) (hQ : HQ Γ) (hC : NC Γ) {b9 LX : Nat} {xs : Nat → Int32} (hX : HX0 Γ b9 LX xs) {X : MX} (C : CX Γ X cL_law 6 RL (some .boolean) room_1) (hend : ∀ (Γ1 : WC) (M : Mem) (cs sl pc : Nat) (L : List (Option Value)), fAg Γ1 = fAg Γ → wU Γ1 = wU Γ → wl Γ1 = wl Γ → cs ≤ 290000 → sl ≤ 6 * 290000 → decode cL_law pc = .ok (.ireturn, 1) → G Γ1 X M cs sl L [.int (1 : Int32)] pc) {Z : Nat} {rM : Unit × Mem} : ∀ (n : Nat) (M : Mem) (b : Nat) (t : Int32) (c : Nat), f_law_l Z LX xs n M b t c = some rM → ∀ ad, ad 999 = b9 → G (gc Γ (KB b) ad (lB b)) X M c (6 * c) [none, some (.ref (ad 108)), some (.ref (ad 109)), some (.ref (ad 0)), none, some (.int t)] [] 183 := by
  intro n
  induction n with
  | zero =>
    intro M b t c hf
    exact nomatch (show (none : Option _) = some rM from hf)
  | succ n ih =>
    intro M b t c hf ad h9
    rw [f_law_l] at hf
    obtain ⟨⟨hb1, hb2⟩, hf⟩ := if_some hf
    have C0 := C.gc (krB b) ad (lB b)
    refine s_law_c (hN4 hT (by omega) (by omega) ad) hC (hF4 (by omega) (by omega) ad) (hL4 hT (by omega) ad) C0 trivial (fun M1 c1 hf => ?_) (fun t2 M1 c1 hf => ?_) hf
    · exact s_law_e (hN4 hT (by omega) (by omega) ad) hC (hF4 (by omega) (by omega) ad) (hL4 hT (by omega) ad) C0 trivial (fun pc Mx cx Lx d hc9 hf => hend _ _ _ _ _ _ rfl rfl rfl hc9 (Nat.mul_le_mul_left _ hc9) d) hf
    · obtain ⟨hc, hf⟩ := if_some hf
      obtain ⟨b2, M2, h, hf⟩ := cl_inv hf
      obtain ⟨⟨hb3, hb4⟩, hf⟩ := if_some hf
      refine d_cSX C (c_L_act hT hQ hC hX hb1 hb2 h) h9 mw_L_act ln_RL_298 ms_L_act (ro_L (k := 80) (by decide) (by decide) hc (by decide)) rfl agr.rfl (fun _ h => h) (L := [none, some (.inr 108), some (.inr 109), some (.inr 0), none, some (.inl (.int t2))]) (st := []) rfl rfl (svB (by omega) rfl) (fun v hv => absurd hv List.not_mem_nil) (Nat.le_of_ble_eq_true rfl) (dkAt dk_L_law_2 16 rfl) 210 rfl rfl (Nat.mul_add _ _ _).symm (fun _ ad2 hag => ?_)
      have h92 : ad2 999 = b9 := hag.b h9
      change G (gc Γ (KB b2) ad2 (lB b2)) X M2 (c1 + 80) (6 * (c1 + 80)) [none, some (.ref (ad2 108)), some (.ref (ad2 109)), some (.ref (ad2 0)), none, some (.int t2)] [.int (1 : Int32)] 210
      exact s_law_d (hN4 hT (by omega) (by omega) ad2) hC (hF4 (by omega) (by omega) ad2) (hL4 hT (by omega) ad2) (C.gc (krB b2) ad2 (lB b2)) trivial (fun t3 M3 c3 hf => ih _ _ _ _ hf ad2 h92) hf
set_option maxRecDepth 100000 in
theorem law_1 {Γ : WC} (hT : HT Γ) (hQ : HQ Γ) {b9 LX : Nat} {xs : Nat → Int32} (hX : HX0 Γ b9 LX xs) {X : MX} (C : CX Γ X cL_law 6 RL (some .boolean) room_1) {Z : Nat} {u : Unit} {M2 : Mem} (hini : f_X12_init_t shL Z LX xs (mH mem1) = some (u, M2)) (K17 : ∀ ad : Nat → Nat, ad 999 = b9 → G (gc Γ SRV ad lL) X M2 702 1540019 [some (.ref (ad 999)), some (.ref (ad 108))] [.ref (ad 109)] 17) : G (gc Γ KT (fun _ => b9) []) X mem0 0 0 [some (.ref b9)] [] 0 := by
  obtain ⟨ad, had⟩ : ∃ ad : Nat → Nat, ad = fun _ => b9 := ⟨_, rfl⟩
  have h9 : ad 999 = b9 := by rw [had]
  rw [← had, ← h9]
  refine d_new C (n := 108) (ci := 13) (N := 2) rfl rc13 uw13 tyX13_ok kd_13 kl_RL_196 ki_13 kn_13 ⟨⟨by decide, by decide⟩, ⟨fun _ => rfl, fun _ => rfl, fun _ => rfl⟩, fun o ho => absurd ho List.not_mem_nil⟩ ⟨by decide, by decide⟩ (l0 := []) (ad0 := ad) agr.rfl (fun _ h => h) (L := [some (.inr 999)]) (st := []) rfl rfl (svN (ns := []) (by decide) rfl) (fun v hv => absurd hv List.not_mem_nil) (dkAt dk_L_law_0 0 rfl) 3 rfl rfl rfl (fun ad hag => ?_)
  replace h9 : ad 999 = b9 := hag.b h9
  change G (gc Γ KT ad [108]) X mem0 1 2 [some (.ref (ad 999))] [.ref (ad 108)] 3
  refine x_dup (C.gc KR.tt ad [108]) rfl (dkAt dk_L_law_0 1 rfl) 4 rfl ?_
  refine x_aload_n (C.gc KR.tt ad [108]) rfl rfl (dkAt dk_L_law_0 2 rfl) 5 rfl ?_
  refine d_cI C (c_X13_init hT.1) mw_X13_init ln_RL_258 mii_X13_init_ ⟨by decide, by decide, by decide, by decide⟩ rfl (l0 := []) (ad0 := ad) agr.rfl (fun _ h => absurd h List.not_mem_nil) (L := [some (.inr 999)]) (st := [.inr 108]) rfl rfl (svN (ns := []) (by decide) rfl) (svN' (ns := [108]) (by decide) rfl) (Nat.le_of_ble_eq_true rfl) (dkAt dk_L_law_0 3 rfl) 8 rfl (cs1 := 1) (sl1 := 2) rfl rfl (fun _ ad hag => ?_)
  replace h9 : ad 999 = b9 := hag.b h9
  change G (gc Γ KT ad [108]) X mem1 1 2 [some (.ref (ad 999))] [.ref (ad 108)] 8
  refine x_astore_n (C.gc KR.tt ad [108]) (L1 := [some (.ref (ad 999)), some (.ref (ad 108))]) (dkAt dk_L_law_0 4 rfl) 9 rfl rfl (by decide) rfl ?_
  refine d_new C (n := 109) (ci := 12) (N := 17) rfl rc12 uw12 tyX12_ok kd_12 kl_RL_134 ki_12 kn_12 ⟨⟨by decide, by decide⟩, mem1_ZE.1 109 (by decide), fun o ho k z => absurd (mem1_R o k _ z).2.2 (by decide)⟩ ⟨by decide, by decide⟩ (l0 := []) (ad0 := ad) agr.rfl (fun _ h => absurd h List.not_mem_nil) (L := [some (.inr 999), some (.inr 108)]) (st := []) rfl rfl (svN (ns := [108]) (by decide) rfl) (fun v hv => absurd hv List.not_mem_nil) (dkAt dk_L_law_0 5 rfl) 12 rfl (cs1 := 2) (sl1 := 19) rfl rfl (fun ad hag => ?_)
  replace h9 : ad 999 = b9 := hag.b h9
  change G (gc Γ KT ad [108, 109]) X mem1 2 19 [some (.ref (ad 999)), some (.ref (ad 108))] [.ref (ad 109)] 12
  refine x_dup (C.gc KR.tt ad [108, 109]) rfl (dkAt dk_L_law_0 6 rfl) 13 rfl ?_
  refine x_aload_n (C.gc KR.tt ad [108, 109]) rfl rfl (dkAt dk_L_law_0 7 rfl) 14 rfl ?_
  refine G.K (K1 := KE) (fun o k j h => (mem1_R o k j h).2.2) ?_
  refine d_cIX C (c_X12_init hT hQ hX mem1_ZE hini) h9 mw_X12_init ln_RL_261 mii_X12_init_ ⟨by decide, by decide, by decide, by decide⟩ rfl (l0 := []) (ad0 := ad) agr.rfl (fun _ h => absurd h List.not_mem_nil) (L := [some (.inr 999), some (.inr 108)]) (st := [.inr 109]) rfl rfl (svN (ns := [108]) (by decide) rfl) (svN' (ns := [109]) (by decide) rfl) (Nat.le_of_ble_eq_true rfl) (dkAt dk_L_law_0 8 rfl) 17 rfl (cs1 := 702) (sl1 := 1540019) rfl rfl (fun _ ad hag => ?_)
  replace h9 : ad 999 = b9 := hag.b h9
  exact K17 ad h9
set_option maxRecDepth 100000 in
theorem law_2 {Γ : WC} (hT : HT Γ) (hQ : HQ Γ) {b9 LX : Nat} {xs : Nat → Int32} (hX : HX0 Γ b9 LX xs) {X : MX} (C : CX Γ X cL_law 6 RL (some .boolean) room_1) (hov : va_AO "DecisionChain$Settings" (wU Γ)) {M2 : Mem} (hZc : Zc 0 M2) (K26 : ∀ ad : Nat → Nat, ad 999 = b9 → G (gc Γ KT ad (lC 108)) X (mmC M2) 810 1551692 [some (.ref (ad 999)), some (.ref (ad 108)), some (.ref (ad 109)), some (.ref (ad 0))] [] 26) (ad : Nat → Nat) (h9 : ad 999 = b9) : G (gc Γ SRV ad lL) X M2 702 1540019 [some (.ref (ad 999)), some (.ref (ad 108))] [.ref (ad 109)] 17 := by
  refine G.K (K1 := KT) trivial ?_
  refine x_astore_n (C.gc KR.tt ad lL) (L1 := [some (.ref (ad 999)), some (.ref (ad 108)), some (.ref (ad 109))]) (dkAt dk_L_law_0 9 rfl) 18 rfl rfl (by decide) rfl ?_
  refine d_new C (n := 0) (ci := 11) (N := 12) rfl rc11 uw11 tyX11_ok kd_11 kl_RL_18 ki_11 kn_11 (by have h := hZc.nz (n := 0) (by decide); rw [show lC 0 = lL from List.append_nil _] at h; exact h) ⟨by decide, by decide⟩ (l0 := []) (ad0 := ad) agr.rfl (fun _ h => absurd h List.not_mem_nil) (L := [some (.inr 999), some (.inr 108), some (.inr 109)]) (st := []) rfl rfl (svN (ns := [108, 109]) (by decide +kernel) rfl) (fun v hv => absurd hv List.not_mem_nil) (dkAt dk_L_law_0 10 rfl) 21 rfl (cs1 := 703) (sl1 := 1540031) rfl rfl (fun ad hag => ?_)
  replace h9 : ad 999 = b9 := hag.b h9
  change G (gc Γ KT ad (lC 1)) X M2 703 1540031 [some (.ref (ad 999)), some (.ref (ad 108)), some (.ref (ad 109))] [.ref (ad 0)] 21
  refine x_dup (C.gc KR.tt ad (lC 1)) rfl (dkAt dk_L_law_0 11 rfl) 22 rfl ?_
  refine d_cI C (k_X11_init_0 hT.1 hov hZc) mw_X11_init ln_RL_264 mii_X11_init_ ⟨by decide, by decide, by decide, by decide⟩ rfl (l0 := []) (ad0 := ad) agr.rfl (fun _ h => absurd h List.not_mem_nil) (L := [some (.inr 999), some (.inr 108), some (.inr 109)]) (st := [.inr 0]) rfl rfl (svN (ns := [108, 109]) (by decide +kernel) rfl) (svN' (ns := [0]) (by decide +kernel) rfl) (Nat.le_of_ble_eq_true rfl) (dkAt dk_L_law_0 12 rfl) 25 rfl (cs1 := 810) (sl1 := 1551692) rfl rfl (fun _ ad hag => ?_)
  replace h9 : ad 999 = b9 := hag.b h9
  change G (gc Γ KT ad (lC 108)) X (mmC M2) 810 1551692 [some (.ref (ad 999)), some (.ref (ad 108)), some (.ref (ad 109))] [.ref (ad 0)] 25
  refine x_astore_n (C.gc KR.tt ad (lC 108)) (L1 := [some (.ref (ad 999)), some (.ref (ad 108)), some (.ref (ad 109)), some (.ref (ad 0))]) (dkAt dk_L_law_0 13 rfl) 26 rfl rfl (by decide) rfl ?_
  exact K26 ad h9
set_option maxRecDepth 100000 in
theorem c_law {Γ : WC} (hT : HT Γ) (hQ : HQ Γ) (hC : NC Γ) (hov : va_AO "DecisionChain$Settings" (wU Γ)) {b9 LX : Nat} {xs : Nat → Int32} (hX : HX0 Γ b9 LX xs) {X : MX} (C : CX Γ X cL_law 6 RL (some .boolean) room_1) (hend : ∀ (Γ1 : WC) (M : Mem) (cs sl pc : Nat) (L : List (Option Value)), fAg Γ1 = fAg Γ → wU Γ1 = wU Γ → wl Γ1 = wl Γ → cs ≤ 290000 → sl ≤ 6 * 290000 → decode cL_law pc = .ok (.ireturn, 1) → G Γ1 X M cs sl L [.int (1 : Int32)] pc) {Z : Nat} {rM : Unit × Mem} (hf : f_law Z LX xs = some rM) : G (gc Γ KT (fun _ => b9) []) X mem0 0 0 [some (.ref b9)] [] 0 := by
  obtain ⟨u, M2, hini, hf⟩ := cl_inv hf
  obtain ⟨⟨hZc, hKB⟩, hf⟩ := if_some hf
  refine law_1 hT hQ hX C hini (law_2 hT hQ hX C hov hZc (fun ad h9 => ?_))
  refine G.K (K1 := KB 212) hKB ?_
  rw [← lB_0]
  refine G.wide (cs1 := 262000) (sl1 := 6 * 262000) (by decide) (by decide) ?_
  refine G.weak (L := [none, some (.ref (ad 108)), some (.ref (ad 109)), some (.ref (ad 0))]) ⟨rfl, rfl, rfl, trivial⟩ ?_
  refine s_law_a (hN4 hT (by decide) (by decide) ad) hC (hF4 (by decide) (by decide) ad) (hL4 hT (by decide) ad) (C.gc (krB 212) ad (lB 212)) trivial (fun a4 M3 c3 hf => ?_) (fun pc Mx cx Lx d hc9 hf => nomatch (show (none : Option (Unit × Mem)) = some rM from hf)) hf
  obtain ⟨⟨⟨n, m, hB⟩, hz2, hz3, hc⟩, hf⟩ := if_some hf
  rw [hB.cnt] at hf
  refine G.weak (L := [none, some (.ref (ad 108)), some (.ref (ad 109)), some (.ref (ad 0)), some (.int a4)]) ⟨rfl, rfl, rfl, rfl, trivial⟩ ?_
  refine d_cV C (cb_toString hT lb212 hB (fun z => absurd ((lB_iff (by decide)).mp z) (by decide)) (fun z => absurd ((lB_iff (by decide)).mp z) (by decide)) (fun M hM o k => ⟨fun z => by have := hM.2.1 o k _ z; omega, fun z => by have := hM.2.1 o k _ z; omega⟩) hz2 hz3 KB.str) mw_J4_toString_0e30d ln_RL_272 mi_J4_toString_0e30d (show RC (gc Γ (KB 212) ad (lB 212)) 210 RJ4 from ⟨15, 4, _, ob (by decide) (by decide) rfl, rc15, rfl⟩) (ro_L2 (by decide) (by decide) hc) rfl (l0 := []) (ad0 := ad) agr.rfl (fun _ h => absurd h List.not_mem_nil) (L := [none, some (.inr 108), some (.inr 109), some (.inr 0), some (.inl (.int a4))]) (st := [.inr 0]) rfl rfl (svB (by decide) rfl) (svB' (by decide) rfl) (Nat.le_of_ble_eq_true rfl) (dkAt dk_L_law_1 29 rfl) 141 rfl (cs1 := c3 + 2) (sl1 := 6 * c3 + 2204) rfl rfl (fun hK ad hag => ?_)
  replace h9 : ad 999 = b9 := hag.b h9
  rw [lB_2]
  refine G.wide (cs1 := c3 + 400) (sl1 := 6 * (c3 + 400)) (by omega) (by omega) ?_
  change G (gc Γ (KB 214) ad (lB 214)) X (tsM M3 n) (c3 + 400) (6 * (c3 + 400)) [none, some (.ref (ad 108)), some (.ref (ad 109)), some (.ref (ad 0)), some (.int a4)] [.ref (ad 212), .ref (ad 0)] 141
  exact s_law_b (hN4 hT (by decide) (by decide) ad) hC (hF4 (by decide) (by decide) ad) (hL4 hT (by decide) ad) (hTX4 hT (by decide) ad) (hXV hX h9) (C.gc (krB 214) ad (lB 214)) trivial (fun t M5 c5 hf => c_law_l hT hQ hC hX C hend _ _ _ _ _ hf ad h9) hf
