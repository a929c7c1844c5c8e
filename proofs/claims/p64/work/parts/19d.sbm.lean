theorem cb_append5S {Γ : WC} (hT : HT Γ) {K9 : Mem → Prop} {l : List Nat} (hl : LB K9 l) {M : Mem} {n m : Nat} (hB : SBM M n m) {t : Nat} (ht : t < 21) (hf : n + (WL.getD t []).length ≤ 1100) : CtD Γ K9 K9 yJ5_append_cf1ce cJ5_append_cf1ce 3 (some (.object "java/lang/AbstractStringBuilder")) (rmL 4 1 2200) l l [.inr 210, .inl (.ref (wst Γ t))] M (some (.inr 210)) (apM M (WL.getD t [])) := by
  refine mkD hT.1 (own := RJ5) rfl (by decide) (fun ad => Nat.le_of_ble_eq_true rfl) (fun ad X C _ E => ?_)
  have hm : m ≤ 2200 := hB.2.2.2.2.1
  have hcn : n ≤ m := hB.2.2.2.1
  have N0 : HB (gc Γ K9 ad l) := hl.hb hT
  have C0 := C.gc hl.2.1 ad l
  change G (gc Γ K9 ad l) X M 0 0 [some (.ref (wad (gc Γ K9 ad l) 210)), some (.ref (wst Γ t))] [] 0
  refine x_aload_n C0 rfl rfl (dkAt dk_J5_append_cf1ce 0 rfl) 1 rfl ?_
  refine x_ifnonnull C0 9 (dkAt dk_J5_append_cf1ce 1 rfl) (by decide) ?_
  refine x_aload_n C0 rfl rfl (dkAt dk_J5_append_cf1ce 5 rfl) 10 rfl ?_
  refine x_slen C0 N0.1 ht ln_RJ5_32 ⟨Nat.le_of_ble_eq_true rfl, Nat.le_of_ble_eq_true rfl, Nat.zero_le _, Nat.zero_le _⟩ (Nat.le_of_ble_eq_true rfl) (dkAt dk_J5_append_cf1ce 6 rfl) 13 rfl ?_
  refine x_istore_n C0 (L1 := [some (.ref (wad (gc Γ K9 ad l) 210)), some (.ref (wst Γ t)), some (.int (slen t))]) (dkAt dk_J5_append_cf1ce 7 rfl) 14 rfl rfl (by decide) rfl ?_
  refine x_aload_n C0 rfl rfl (dkAt dk_J5_append_cf1ce 8 rfl) 15 rfl ?_
  refine x_aload_n C0 rfl rfl (dkAt dk_J5_append_cf1ce 9 rfl) 16 rfl ?_
  refine x_getIv C0 lk_RJ5_79 N0.2.1 (dkAt dk_J5_append_cf1ce 10 rfl) 19 rfl ?_
  rw [show (gI M 210 3) = (nI n) from hB.1]
  refine x_iload_n C0 rfl rfl (dkAt dk_J5_append_cf1ce 11 rfl) 20 rfl ?_
  refine x_iadd C0 (dkAt dk_J5_append_cf1ce 12 rfl) 21 rfl ?_
  rw [show ((nI n) + (slen t)) = (nI (n + (WL.getD t []).length)) from nI_add _ _]
  refine d_cU C (cb_ensure hT hl hB hf) mu_RJ5_100 (show RC (gc Γ K9 ad l) 210 RJ4 from ⟨15, 4, _, N0.2.1, rc15, rfl⟩) (ro_of (by decide) (by decide) (by decide) (by decide)) rfl agr.rfl (fun _ h => h) (L := [some (.inr 210), some (.inl (.ref (wst Γ t))), some (.inl (.int (slen t)))]) (st := []) rfl rfl (hl.sL rfl) (hl.sS rfl) (Nat.le_of_ble_eq_true rfl) (dkAt dk_J5_append_cf1ce 13 rfl) 24 rfl rfl rfl (fun hK1 ad1 hag1 => ?_)
  have hag1 : agr l ad ad1 := hag1
  obtain ⟨m1, hB1, hm1⟩ := hB.grow (q := n + (WL.getD t []).length) hf
  have N1 : HB (gc Γ K9 ad1 l) := hl.hb hT
  have C1 := C.gc hl.2.1 ad1 l
  change G (gc Γ K9 ad1 l) X (growM M (n + (WL.getD t []).length)) 1 2200 [some (.ref (wad (gc Γ K9 ad1 l) 210)), some (.ref (wst Γ t)), some (.int (slen t))] [] 24
  refine x_aload_n C1 rfl rfl (dkAt dk_J5_append_cf1ce 14 rfl) 25 rfl ?_
  refine x_aload_n C1 rfl rfl (dkAt dk_J5_append_cf1ce 15 rfl) 26 rfl ?_
  refine x_getIv C1 lk_RJ5_79 N1.2.1 (dkAt dk_J5_append_cf1ce 16 rfl) 29 rfl ?_
  rw [show (gI (growM M (n + (WL.getD t []).length)) 210 3) = (nI n) from hB1.1]
  refine x_aload_n C1 rfl rfl (dkAt dk_J5_append_cf1ce 17 rfl) 30 rfl ?_
  refine x_cU C1 (cb_putStringAt N1 hB1 ht hm1) mu_RJ5_208 (show RC (gc Γ K9 ad1 l) 210 RJ4 from ⟨15, 4, _, N1.2.1, rc15, rfl⟩) (ro_of (by decide) (by decide) (by decide) (by decide)) rfl rfl (Nat.le_of_ble_eq_true rfl) (dkAt dk_J5_append_cf1ce 18 rfl) 33 rfl 1 2200 rfl rfl ?_
  change G (gc Γ K9 ad1 l) X (putT (growM M (n + (WL.getD t []).length)) n (WL.getD t [])) 1 2200 [some (.ref (wad (gc Γ K9 ad1 l) 210)), some (.ref (wst Γ t)), some (.int (slen t))] [] 33
  refine x_aload_n C1 rfl rfl (dkAt dk_J5_append_cf1ce 19 rfl) 34 rfl ?_
  refine x_dup C1 rfl (dkAt dk_J5_append_cf1ce 20 rfl) 35 rfl ?_
  refine x_getIv C1 lk_RJ5_79 N1.2.1 (dkAt dk_J5_append_cf1ce 21 rfl) 38 rfl ?_
  rw [show (gI (putT (growM M (n + (WL.getD t []).length)) n (WL.getD t [])) 210 3) = (nI n) from hB1.1]
  refine x_iload_n C1 rfl rfl (dkAt dk_J5_append_cf1ce 22 rfl) 39 rfl ?_
  refine x_iadd C1 (dkAt dk_J5_append_cf1ce 23 rfl) 40 rfl ?_
  rw [show ((nI n) + (slen t)) = (nI (n + (WL.getD t []).length)) from nI_add _ _]
  refine x_putIv C1 pk_RJ5_79 ⟨_, rfl⟩ N1.2.1 (dkAt dk_J5_append_cf1ce 24 rfl) 43 rfl ?_
  refine x_aload_n C1 rfl rfl (dkAt dk_J5_append_cf1ce 25 rfl) 44 rfl ?_
  rw [apM_eq hB] at E
  exact d_aret C (Or.inl ⟨_, rfl⟩) E hag1 (fun h => h) (Nat.le_refl _) (Nat.le_refl _) (dkAt dk_J5_append_cf1ce 26 rfl)
theorem cb_appendS {Γ : WC} (hT : HT Γ) {K9 : Mem → Prop} {l : List Nat} (hl : LB K9 l) {M : Mem} {n m : Nat} (hB : SBM M n m) {t : Nat} (ht : t < 21) (hf : n + (WL.getD t []).length ≤ 1100) : CtD Γ K9 K9 yJ4_append_15ec4 cJ4_append_15ec4 2 (some (.object "java/lang/StringBuilder")) (rmL 5 1 2200) l l [.inr 210, .inl (.ref (wst Γ t))] M (some (.inr 210)) (apM M (WL.getD t [])) := by
  refine mkD hT.1 (own := RJ4) rfl (by decide) (fun ad => Nat.le_of_ble_eq_true rfl) (fun ad X C _ E => ?_)
  have hm : m ≤ 2200 := hB.2.2.2.2.1
  have hcn : n ≤ m := hB.2.2.2.1
  have N0 : HB (gc Γ K9 ad l) := hl.hb hT
  have C0 := C.gc hl.2.1 ad l
  change G (gc Γ K9 ad l) X M 0 0 [some (.ref (wad (gc Γ K9 ad l) 210)), some (.ref (wst Γ t))] [] 0
  refine x_aload_n C0 rfl rfl (dkAt dk_J4_append_15ec4 0 rfl) 1 rfl ?_
  refine x_aload_n C0 rfl rfl (dkAt dk_J4_append_15ec4 1 rfl) 2 rfl ?_
  refine d_cSU C (cb_append5S hT hl hB ht hf) msu_RJ4_29 (ci := 15) N0.2.1 rc15 (ro_of (by decide) (by decide) (by decide) (by decide)) rfl agr.rfl (fun _ h => h) (L := [some (.inr 210), some (.inl (.ref (wst Γ t)))]) (st := []) rfl rfl (hl.sL rfl) (hl.sS rfl) (Nat.le_of_ble_eq_true rfl) (dkAt dk_J4_append_15ec4 2 rfl) 5 rfl rfl rfl (fun hK1 ad1 hag1 => ?_)
  have hag1 : agr l ad ad1 := hag1
  have N1 : HB (gc Γ K9 ad1 l) := hl.hb hT
  have C1 := C.gc hl.2.1 ad1 l
  change G (gc Γ K9 ad1 l) X (apM M (WL.getD t [])) 1 2200 [some (.ref (wad (gc Γ K9 ad1 l) 210)), some (.ref (wst Γ t))] [.ref (wad (gc Γ K9 ad1 l) 210)] 5
  refine x_pop C1 rfl (dkAt dk_J4_append_15ec4 3 rfl) 6 rfl ?_
  refine x_aload_n C1 rfl rfl (dkAt dk_J4_append_15ec4 4 rfl) 7 rfl ?_
  exact d_aret C (Or.inl ⟨_, rfl⟩) E hag1 (fun h => h) (Nat.le_refl _) (Nat.le_refl _) (dkAt dk_J4_append_15ec4 5 rfl)
theorem cb_appendB {Γ : WC} (hT : HT Γ) {K9 : Mem → Prop} {l : List Nat} (hl : LB K9 l) {M : Mem} {n m : Nat} (hB : SBM M n m) {t : Nat} (ht : t < 21) (hf : n + (WL.getD t []).length ≤ 1100) : CtD Γ K9 K9 yJ4_append_cf1ce cJ4_append_cf1ce 2 (some (.object "java/lang/AbstractStringBuilder")) (rmL 6 1 2200) l l [.inr 210, .inl (.ref (wst Γ t))] M (some (.inr 210)) (apM M (WL.getD t [])) := by
  refine mkD hT.1 (own := RJ4) rfl (by decide) (fun ad => Nat.le_of_ble_eq_true rfl) (fun ad X C _ E => ?_)
  have hm : m ≤ 2200 := hB.2.2.2.2.1
  have hcn : n ≤ m := hB.2.2.2.1
  have N0 : HB (gc Γ K9 ad l) := hl.hb hT
  have C0 := C.gc hl.2.1 ad l
  change G (gc Γ K9 ad l) X M 0 0 [some (.ref (wad (gc Γ K9 ad l) 210)), some (.ref (wst Γ t))] [] 0
  refine x_aload_n C0 rfl rfl (dkAt dk_J4_append_cf1ce 0 rfl) 1 rfl ?_
  refine x_aload_n C0 rfl rfl (dkAt dk_J4_append_cf1ce 1 rfl) 2 rfl ?_
  refine d_cV C (cb_appendS hT hl hB ht hf) mw_J4_append_15ec4 ln_RJ4_23 mi_J4_append_15ec4 (show RC (gc Γ K9 ad l) 210 RJ4 from ⟨15, 4, _, N0.2.1, rc15, rfl⟩) (ro_of (by decide) (by decide) (by decide) (by decide)) rfl agr.rfl (fun _ h => h) (L := [some (.inr 210), some (.inl (.ref (wst Γ t)))]) (st := []) rfl rfl (hl.sL rfl) (hl.sS rfl) (Nat.le_of_ble_eq_true rfl) (dkAt dk_J4_append_cf1ce 2 rfl) 5 rfl rfl rfl (fun hK1 ad1 hag1 => ?_)
  have hag1 : agr l ad ad1 := hag1
  have N1 : HB (gc Γ K9 ad1 l) := hl.hb hT
  have C1 := C.gc hl.2.1 ad1 l
  change G (gc Γ K9 ad1 l) X (apM M (WL.getD t [])) 1 2200 [some (.ref (wad (gc Γ K9 ad1 l) 210)), some (.ref (wst Γ t))] [.ref (wad (gc Γ K9 ad1 l) 210)] 5
  exact d_aret C (Or.inl ⟨_, rfl⟩) E hag1 (fun h => h) (Nat.le_refl _) (Nat.le_refl _) (dkAt dk_J4_append_cf1ce 3 rfl)
theorem cb_canEncode {Γ : WC} (hG : HG Γ) {M : Mem} : Ct Γ yJ1_canEncode_fc78d cJ1_canEncode_fc78d 1 (some .boolean) (rmL 0 0 0) [.int (32 : Int32)] M (some (.int 1)) M := by
  refine mkN hG (own := RJ1) rfl (by decide) (Nat.le_of_ble_eq_true rfl) (fun X C E => ?_)
  change G Γ X M 0 0 [some (.int (32 : Int32))] [] 0
  refine x_iload_n C rfl rfl (dkAt dk_J1_canEncode_fc78d 0 rfl) 1 rfl ?_
  refine x_sipush C (v := (255 : Int32)) (by decide) (dkAt dk_J1_canEncode_fc78d 1 rfl) 4 rfl ?_
  refine xcF_gt C (by decide) 11 (dkAt dk_J1_canEncode_fc78d 2 rfl) (by decide) 7 rfl ?_
  refine x_iconst C (v := (1 : Int32)) (by decide) (dkAt dk_J1_canEncode_fc78d 3 rfl) 8 rfl ?_
  refine x_goto C 12 (dkAt dk_J1_canEncode_fc78d 4 rfl) (by decide) ?_
  exact x_nret (rM := (0, M)) C E rfl (Nat.le_refl _) (Nat.le_refl _) (dkAt dk_J1_canEncode_fc78d 6 rfl)
theorem cb_append5C {Γ : WC} (hT : HT Γ) {K9 : Mem → Prop} {l : List Nat} (hl : LB K9 l) {M : Mem} {n m : Nat} (hB : SBM M n m) (hf : n + 1 ≤ 1100) : CtD Γ K9 K9 yJ5_append_3fe6f cJ5_append_3fe6f 2 (some (.object "java/lang/AbstractStringBuilder")) (rmL 4 1 2200) l l [.inr 210, .inl (.int (32 : Int32))] M (some (.inr 210)) (apM M [32]) := by
  refine mkD hT.1 (own := RJ5) rfl (by decide) (fun ad => Nat.le_of_ble_eq_true rfl) (fun ad X C _ E => ?_)
  have hm : m ≤ 2200 := hB.2.2.2.2.1
  have hcn : n ≤ m := hB.2.2.2.1
  have N0 : HB (gc Γ K9 ad l) := hl.hb hT
  have C0 := C.gc hl.2.1 ad l
  change G (gc Γ K9 ad l) X M 0 0 [some (.ref (wad (gc Γ K9 ad l) 210)), some (.int (32 : Int32))] [] 0
  refine x_aload_n C0 rfl rfl (dkAt dk_J5_append_3fe6f 0 rfl) 1 rfl ?_
  refine x_aload_n C0 rfl rfl (dkAt dk_J5_append_3fe6f 1 rfl) 2 rfl ?_
  refine x_getIv C0 lk_RJ5_79 N0.2.1 (dkAt dk_J5_append_3fe6f 2 rfl) 5 rfl ?_
  rw [show (gI M 210 3) = (nI n) from hB.1]
  refine x_iconst C0 (v := (1 : Int32)) (by decide) (dkAt dk_J5_append_3fe6f 3 rfl) 6 rfl ?_
  refine x_iadd C0 (dkAt dk_J5_append_3fe6f 4 rfl) 7 rfl ?_
  rw [show ((nI n) + (1 : Int32)) = (nI (n + 1)) from nI_1 _]
  refine d_cU C (cb_ensure hT hl hB hf) mu_RJ5_100 (show RC (gc Γ K9 ad l) 210 RJ4 from ⟨15, 4, _, N0.2.1, rc15, rfl⟩) (ro_of (by decide) (by decide) (by decide) (by decide)) rfl agr.rfl (fun _ h => h) (L := [some (.inr 210), some (.inl (.int (32 : Int32)))]) (st := []) rfl rfl (hl.sL rfl) (hl.sS rfl) (Nat.le_of_ble_eq_true rfl) (dkAt dk_J5_append_3fe6f 5 rfl) 10 rfl rfl rfl (fun hK1 ad1 hag1 => ?_)
  have hag1 : agr l ad ad1 := hag1
  obtain ⟨m1, hB1, hm1⟩ := hB.grow (q := n + 1) hf
  have N1 : HB (gc Γ K9 ad1 l) := hl.hb hT
  have C1 := C.gc hl.2.1 ad1 l
  change G (gc Γ K9 ad1 l) X (growM M (n + 1)) 1 2200 [some (.ref (wad (gc Γ K9 ad1 l) 210)), some (.int (32 : Int32))] [] 10
  refine x_aload_n C1 rfl rfl (dkAt dk_J5_append_3fe6f 6 rfl) 11 rfl ?_
  refine x_cU C1 (cb_isLatin1 N1 hB1) mu_RJ5_83 (show RC (gc Γ K9 ad1 l) 210 RJ4 from ⟨15, 4, _, N1.2.1, rc15, rfl⟩) (ro_of (by decide) (by decide) (by decide) (by decide)) rfl rfl (Nat.le_of_ble_eq_true rfl) (dkAt dk_J5_append_3fe6f 7 rfl) 14 rfl 1 2200 rfl rfl ?_
  change G (gc Γ K9 ad1 l) X (growM M (n + 1)) 1 2200 [some (.ref (wad (gc Γ K9 ad1 l) 210)), some (.int (32 : Int32))] [.int 1] 14
  refine xiF_eq C1 (by decide) 45 (dkAt dk_J5_append_3fe6f 8 rfl) (by decide) 17 rfl ?_
  refine x_iload_n C1 rfl rfl (dkAt dk_J5_append_3fe6f 9 rfl) 18 rfl ?_
  refine x_cSi C1 (cb_canEncode N1.1.1) mw_J1_canEncode_fc78d ln_RJ5_191 ms_J1_canEncode_fc78d (ro_of (by decide) (by decide) (by decide) (by decide)) rfl rfl (Nat.le_of_ble_eq_true rfl) (dkAt dk_J5_append_3fe6f 10 rfl) 21 rfl 1 2200 rfl rfl ?_
  refine xiF_eq C1 (by decide) 45 (dkAt dk_J5_append_3fe6f 11 rfl) (by decide) 24 rfl ?_
  refine x_aload_n C1 rfl rfl (dkAt dk_J5_append_3fe6f 12 rfl) 25 rfl ?_
  refine x_getS C1 lk_RJ5_15 N1.2.1 N1.2.2.2 (dkAt dk_J5_append_3fe6f 13 rfl) 28 rfl ?_
  refine x_aload_n C1 rfl rfl (dkAt dk_J5_append_3fe6f 14 rfl) 29 rfl ?_
  refine x_dup C1 rfl (dkAt dk_J5_append_3fe6f 15 rfl) 30 rfl ?_
  refine x_getIv C1 lk_RJ5_79 N1.2.1 (dkAt dk_J5_append_3fe6f 16 rfl) 33 rfl ?_
  rw [show (gI (growM M (n + 1)) 210 3) = (nI n) from hB1.1]
  refine x_dup_x1 C1 rfl rfl (dkAt dk_J5_append_3fe6f 17 rfl) 34 rfl ?_
  refine x_iconst C1 (v := (1 : Int32)) (by decide) (dkAt dk_J5_append_3fe6f 18 rfl) 35 rfl ?_
  refine x_iadd C1 (dkAt dk_J5_append_3fe6f 19 rfl) 36 rfl ?_
  rw [show ((nI n) + (1 : Int32)) = (nI (n + 1)) from nI_1 _]
  refine x_putIv C1 pk_RJ5_79 ⟨_, rfl⟩ N1.2.1 (dkAt dk_J5_append_3fe6f 20 rfl) 39 rfl ?_
  refine x_iload_n C1 rfl rfl (dkAt dk_J5_append_3fe6f 21 rfl) 40 rfl ?_
  refine x_i2b C1 (dkAt dk_J5_append_3fe6f 22 rfl) 41 rfl ?_
  refine x_bastV C1 (n := 0) N1.2.2.1 (inB_nI (show n < vlen (growM M (n + 1)) 211 by rw [hB1.2.2.1]; omega) (show vlen (growM M (n + 1)) 211 < 2 ^ 31 by rw [hB1.2.2.1]; have := hB1.2.2.2.2.1; omega)) (dkAt dk_J5_append_3fe6f 23 rfl) 42 rfl ?_
  rw [show (nI n).toNatClampNeg = n from nI_clamp (by omega), show vp_nar .byte ((32 : Int32).toInt8.toInt32) = nI 32 from (by decide)]
  refine x_goto C1 75 (dkAt dk_J5_append_3fe6f 24 rfl) (by decide) ?_
  refine x_aload_n C1 rfl rfl (dkAt dk_J5_append_3fe6f 41 rfl) 76 rfl ?_
  rw [apM_eq hB, show sI (putT (growM M (n + [32].length)) n [32]) 210 3 (nI (n + [32].length)) = sI (sI (growM M (n + 1)) 210 3 (nI (n + 1))) 211 n (nI 32) from ?_] at E
  · exact d_aret C (Or.inl ⟨_, rfl⟩) E hag1 (fun h => h) (Nat.le_refl _) (Nat.le_refl _) (dkAt dk_J5_append_3fe6f 42 rfl)
  · show sI (putT (growM M (n + 1)) n [32]) 210 3 (nI (n + 1)) = _
    rw [← sI_putT (j := n), putT_nil]
    refine mem_ext (fun o k => ?_) rfl
    simp only [gI_sI]
    by_cases h1 : o = 210 ∧ k = 3 <;> by_cases h2 : o = 211 ∧ k = n <;> simp [h1, h2]
theorem cb_appendC {Γ : WC} (hT : HT Γ) {K9 : Mem → Prop} {l : List Nat} (hl : LB K9 l) {M : Mem} {n m : Nat} (hB : SBM M n m) (hf : n + 1 ≤ 1100) : CtD Γ K9 K9 yJ4_append_cf468 cJ4_append_cf468 2 (some (.object "java/lang/StringBuilder")) (rmL 5 1 2200) l l [.inr 210, .inl (.int (32 : Int32))] M (some (.inr 210)) (apM M [32]) := by
  refine mkD hT.1 (own := RJ4) rfl (by decide) (fun ad => Nat.le_of_ble_eq_true rfl) (fun ad X C _ E => ?_)
  have hm : m ≤ 2200 := hB.2.2.2.2.1
  have hcn : n ≤ m := hB.2.2.2.1
  have N0 : HB (gc Γ K9 ad l) := hl.hb hT
  have C0 := C.gc hl.2.1 ad l
  change G (gc Γ K9 ad l) X M 0 0 [some (.ref (wad (gc Γ K9 ad l) 210)), some (.int (32 : Int32))] [] 0
  refine x_aload_n C0 rfl rfl (dkAt dk_J4_append_cf468 0 rfl) 1 rfl ?_
  refine x_iload_n C0 rfl rfl (dkAt dk_J4_append_cf468 1 rfl) 2 rfl ?_
  refine d_cSU C (cb_append5C hT hl hB hf) msu_RJ4_50 (ci := 15) N0.2.1 rc15 (ro_of (by decide) (by decide) (by decide) (by decide)) rfl agr.rfl (fun _ h => h) (L := [some (.inr 210), some (.inl (.int (32 : Int32)))]) (st := []) rfl rfl (hl.sL rfl) (hl.sS rfl) (Nat.le_of_ble_eq_true rfl) (dkAt dk_J4_append_cf468 2 rfl) 5 rfl rfl rfl (fun hK1 ad1 hag1 => ?_)
  have hag1 : agr l ad ad1 := hag1
  have N1 : HB (gc Γ K9 ad1 l) := hl.hb hT
  have C1 := C.gc hl.2.1 ad1 l
  change G (gc Γ K9 ad1 l) X (apM M [32]) 1 2200 [some (.ref (wad (gc Γ K9 ad1 l) 210)), some (.int (32 : Int32))] [.ref (wad (gc Γ K9 ad1 l) 210)] 5
  refine x_pop C1 rfl (dkAt dk_J4_append_cf468 3 rfl) 6 rfl ?_
  refine x_aload_n C1 rfl rfl (dkAt dk_J4_append_cf468 4 rfl) 7 rfl ?_
  exact d_aret C (Or.inl ⟨_, rfl⟩) E hag1 (fun h => h) (Nat.le_refl _) (Nat.le_refl _) (dkAt dk_J4_append_cf468 5 rfl)
theorem cb_append5I {Γ : WC} (hT : HT Γ) {K9 : Mem → Prop} {l : List Nat} (hl : LB K9 l) {M : Mem} {n m : Nat} (hB : SBM M n m) {v : Nat} (hv : v < 100000) (hf : n + (dgs v).length ≤ 1100) : CtD Γ K9 K9 yJ5_append_c97b9 cJ5_append_c97b9 4 (some (.object "java/lang/AbstractStringBuilder")) (rmL 4 1 2200) l l [.inr 210, .inl (.int (nI v))] M (some (.inr 210)) (apM M (dgs v)) := by
  refine mkD hT.1 (own := RJ5) rfl (by decide) (fun ad => Nat.le_of_ble_eq_true rfl) (fun ad X C _ E => ?_)
  have hm : m ≤ 2200 := hB.2.2.2.2.1
  have hcn : n ≤ m := hB.2.2.2.1
  have N0 : HB (gc Γ K9 ad l) := hl.hb hT
  have C0 := C.gc hl.2.1 ad l
  change G (gc Γ K9 ad l) X M 0 0 [some (.ref (wad (gc Γ K9 ad l) 210)), some (.int (nI v))] [] 0
  refine x_aload_n C0 rfl rfl (dkAt dk_J5_append_c97b9 0 rfl) 1 rfl ?_
  refine x_getIv C0 lk_RJ5_79 N0.2.1 (dkAt dk_J5_append_c97b9 1 rfl) 4 rfl ?_
  rw [show (gI M 210 3) = (nI n) from hB.1]
  refine x_istore_n C0 (L1 := [some (.ref (wad (gc Γ K9 ad l) 210)), some (.int (nI v)), some (.int (nI n))]) (dkAt dk_J5_append_c97b9 2 rfl) 5 rfl rfl (by decide) rfl ?_
  refine x_iload_n C0 rfl rfl (dkAt dk_J5_append_c97b9 3 rfl) 6 rfl ?_
  refine x_iload_n C0 rfl rfl (dkAt dk_J5_append_c97b9 4 rfl) 7 rfl ?_
  refine x_cSi C0 (cb_stringSize N0.1.1 hv) mw_J6_stringSize_0f7a4 ln_RJ5_245 ms_J6_stringSize_0f7a4 (ro_of (by decide) (by decide) (by decide) (by decide)) rfl rfl (Nat.le_of_ble_eq_true rfl) (dkAt dk_J5_append_c97b9 5 rfl) 10 rfl 0 0 rfl rfl ?_
  refine x_iadd C0 (dkAt dk_J5_append_c97b9 6 rfl) 11 rfl ?_
  rw [show ((nI n) + (nI (dgs v).length)) = (nI (n + (dgs v).length)) from nI_add _ _]
  refine x_istore_n C0 (L1 := [some (.ref (wad (gc Γ K9 ad l) 210)), some (.int (nI v)), some (.int (nI n)), some (.int (nI (n + (dgs v).length)))]) (dkAt dk_J5_append_c97b9 7 rfl) 12 rfl rfl (by decide) rfl ?_
  refine x_aload_n C0 rfl rfl (dkAt dk_J5_append_c97b9 8 rfl) 13 rfl ?_
  refine x_iload_n C0 rfl rfl (dkAt dk_J5_append_c97b9 9 rfl) 14 rfl ?_
  refine d_cU C (cb_ensure hT hl hB hf) mu_RJ5_100 (show RC (gc Γ K9 ad l) 210 RJ4 from ⟨15, 4, _, N0.2.1, rc15, rfl⟩) (ro_of (by decide) (by decide) (by decide) (by decide)) rfl agr.rfl (fun _ h => h) (L := [some (.inr 210), some (.inl (.int (nI v))), some (.inl (.int (nI n))), some (.inl (.int (nI (n + (dgs v).length))))]) (st := []) rfl rfl (hl.sL rfl) (hl.sS rfl) (Nat.le_of_ble_eq_true rfl) (dkAt dk_J5_append_c97b9 10 rfl) 17 rfl rfl rfl (fun hK1 ad1 hag1 => ?_)
  have hag1 : agr l ad ad1 := hag1
  obtain ⟨m1, hB1, hm1⟩ := hB.grow (q := n + (dgs v).length) hf
  have N1 : HB (gc Γ K9 ad1 l) := hl.hb hT
  have C1 := C.gc hl.2.1 ad1 l
  change G (gc Γ K9 ad1 l) X (growM M (n + (dgs v).length)) 1 2200 [some (.ref (wad (gc Γ K9 ad1 l) 210)), some (.int (nI v)), some (.int (nI n)), some (.int (nI (n + (dgs v).length)))] [] 17
  refine x_aload_n C1 rfl rfl (dkAt dk_J5_append_c97b9 11 rfl) 18 rfl ?_
  refine x_cU C1 (cb_isLatin1 N1 hB1) mu_RJ5_83 (show RC (gc Γ K9 ad1 l) 210 RJ4 from ⟨15, 4, _, N1.2.1, rc15, rfl⟩) (ro_of (by decide) (by decide) (by decide) (by decide)) rfl rfl (Nat.le_of_ble_eq_true rfl) (dkAt dk_J5_append_c97b9 12 rfl) 21 rfl 1 2200 rfl rfl ?_
  change G (gc Γ K9 ad1 l) X (growM M (n + (dgs v).length)) 1 2200 [some (.ref (wad (gc Γ K9 ad1 l) 210)), some (.int (nI v)), some (.int (nI n)), some (.int (nI (n + (dgs v).length)))] [.int 1] 21
  refine xiF_eq C1 (by decide) 37 (dkAt dk_J5_append_c97b9 13 rfl) (by decide) 24 rfl ?_
  refine x_iload_n C1 rfl rfl (dkAt dk_J5_append_c97b9 14 rfl) 25 rfl ?_
  refine x_iload_n C1 rfl rfl (dkAt dk_J5_append_c97b9 15 rfl) 26 rfl ?_
  refine x_aload_n C1 rfl rfl (dkAt dk_J5_append_c97b9 16 rfl) 27 rfl ?_
  refine x_getS C1 lk_RJ5_15 N1.2.1 N1.2.2.2 (dkAt dk_J5_append_c97b9 17 rfl) 30 rfl ?_
  refine x_cSi C1 (cb_getChars N1 hB1 hv hm1) mw_J6_getChars_ba4f3 ln_RJ5_248 ms_J6_getChars_ba4f3 (ro_of (by decide) (by decide) (by decide) (by decide)) rfl rfl (Nat.le_of_ble_eq_true rfl) (dkAt dk_J5_append_c97b9 18 rfl) 33 rfl 1 2200 rfl rfl ?_
  change G (gc Γ K9 ad1 l) X (putT (growM M (n + (dgs v).length)) n (dgs v)) 1 2200 [some (.ref (wad (gc Γ K9 ad1 l) 210)), some (.int (nI v)), some (.int (nI n)), some (.int (nI (n + (dgs v).length)))] [.int (nI n)] 33
  refine x_pop C1 rfl (dkAt dk_J5_append_c97b9 19 rfl) 34 rfl ?_
  refine x_goto C1 48 (dkAt dk_J5_append_c97b9 20 rfl) (by decide) ?_
  refine x_aload_n C1 rfl rfl (dkAt dk_J5_append_c97b9 28 rfl) 49 rfl ?_
  refine x_iload_n C1 rfl rfl (dkAt dk_J5_append_c97b9 29 rfl) 50 rfl ?_
  refine x_putIv C1 pk_RJ5_79 ⟨_, rfl⟩ N1.2.1 (dkAt dk_J5_append_c97b9 30 rfl) 53 rfl ?_
  refine x_aload_n C1 rfl rfl (dkAt dk_J5_append_c97b9 31 rfl) 54 rfl ?_
  rw [apM_eq hB] at E
  exact d_aret C (Or.inl ⟨_, rfl⟩) E hag1 (fun h => h) (Nat.le_refl _) (Nat.le_refl _) (dkAt dk_J5_append_c97b9 32 rfl)
theorem cb_appendI {Γ : WC} (hT : HT Γ) {K9 : Mem → Prop} {l : List Nat} (hl : LB K9 l) {M : Mem} {n m : Nat} (hB : SBM M n m) {v : Nat} (hv : v < 100000) (hf : n + (dgs v).length ≤ 1100) : CtD Γ K9 K9 yJ4_append_bf812 cJ4_append_bf812 2 (some (.object "java/lang/StringBuilder")) (rmL 5 1 2200) l l [.inr 210, .inl (.int (nI v))] M (some (.inr 210)) (apM M (dgs v)) := by
  refine mkD hT.1 (own := RJ4) rfl (by decide) (fun ad => Nat.le_of_ble_eq_true rfl) (fun ad X C _ E => ?_)
  have hm : m ≤ 2200 := hB.2.2.2.2.1
  have hcn : n ≤ m := hB.2.2.2.1
  have N0 : HB (gc Γ K9 ad l) := hl.hb hT
  have C0 := C.gc hl.2.1 ad l
  change G (gc Γ K9 ad l) X M 0 0 [some (.ref (wad (gc Γ K9 ad l) 210)), some (.int (nI v))] [] 0
  refine x_aload_n C0 rfl rfl (dkAt dk_J4_append_bf812 0 rfl) 1 rfl ?_
  refine x_iload_n C0 rfl rfl (dkAt dk_J4_append_bf812 1 rfl) 2 rfl ?_
  refine d_cSU C (cb_append5I hT hl hB hv hf) msu_RJ4_53 (ci := 15) N0.2.1 rc15 (ro_of (by decide) (by decide) (by decide) (by decide)) rfl agr.rfl (fun _ h => h) (L := [some (.inr 210), some (.inl (.int (nI v)))]) (st := []) rfl rfl (hl.sL rfl) (hl.sS rfl) (Nat.le_of_ble_eq_true rfl) (dkAt dk_J4_append_bf812 2 rfl) 5 rfl rfl rfl (fun hK1 ad1 hag1 => ?_)
  have hag1 : agr l ad ad1 := hag1
  have N1 : HB (gc Γ K9 ad1 l) := hl.hb hT
  have C1 := C.gc hl.2.1 ad1 l
  change G (gc Γ K9 ad1 l) X (apM M (dgs v)) 1 2200 [some (.ref (wad (gc Γ K9 ad1 l) 210)), some (.int (nI v))] [.ref (wad (gc Γ K9 ad1 l) 210)] 5
  refine x_pop C1 rfl (dkAt dk_J4_append_bf812 3 rfl) 6 rfl ?_
  refine x_aload_n C1 rfl rfl (dkAt dk_J4_append_bf812 4 rfl) 7 rfl ?_
  exact d_aret C (Or.inl ⟨_, rfl⟩) E hag1 (fun h => h) (Nat.le_refl _) (Nat.le_refl _) (dkAt dk_J4_append_bf812 5 rfl)
