theorem sv2 {l : List Nat} (h0 : 210 ∈ l) (h2 : 212 ∈ l) {L : List (Option SV)} (hL : L.all (fun o => match o with
  | some (.inr o) => o == 210 || o == 212
  | _ => true) = true) : svL l L := fun v hv => by
  have := List.all_eq_true.mp hL (some v) hv
  cases v with
  | inl v => trivial
  | inr o =>
    have e : o = 210 ∨ o = 212 := by simpa using this
    rcases e with rfl | rfl
    · exact ⟨Or.inl h0, by decide⟩
    · exact ⟨Or.inl h2, by decide⟩
theorem sv3 {l : List Nat} (h0 : 210 ∈ l) (h2 : 212 ∈ l) {L : List SV} (hL : L.all (fun o => match o with
  | .inr o => o == 210 || o == 212
  | _ => true) = true) : svS l L := fun v hv => by
  have := List.all_eq_true.mp hL v hv
  cases v with
  | inl v => trivial
  | inr o =>
    have e : o = 210 ∨ o = 212 := by simpa using this
    rcases e with rfl | rfl
    · exact ⟨Or.inl h0, by decide⟩
    · exact ⟨Or.inl h2, by decide⟩
theorem LB.add {K9 : Mem → Prop} {l : List Nat} (h : LB K9 l) {n : Nat} (hn : n ∉ l) (h3 : n ≠ 300) : LB K9 (l ++ [n]) := ⟨⟨⟨List.mem_append_left _ h.1.1.1, List.mem_append_left _ h.1.1.2.1, l3_nd h.1.1.2.2 hn⟩, fun z => (List.mem_append.mp z).elim h.1.2 (fun z => h3 (List.mem_singleton.mp z).symm)⟩, h.2⟩
theorem SBM.c0 {M : Mem} {n m : Nat} (h : SBM M n m) : SBM (sI M 212 1 0) n m := ⟨h.1, h.2.1, h.2.2.1, h.2.2.2.1, h.2.2.2.2.1, h.2.2.2.2.2.1, h.2.2.2.2.2.2⟩
/-- the memory behind toString: the string 212 with its bytes 213 -/
def tsM (M : Mem) (n : Nat) : Mem := sR (rgM (sI M 212 1 0) n) 212 0 (some 213)
theorem cb_str2 {Γ : WC} (hT : HT Γ) {K9 K1 : Mem → Prop} {l : List Nat} (hl : LB K9 l) {M : Mem} {n m : Nat} (hB : SBM M n m) (h212 : 212 ∈ l) (h213 : 213 ∉ l) (hz : ∀ M, K9 M → ∀ o, o ∈ l → ∀ k, gR M o k ≠ some 213) (hz3 : (∀ k, gI M 213 k = 0) ∧ (∀ k, gL M 213 k = 0) ∧ ∀ k, gR M 213 k = none) (hK1 : ∀ M, K9 M → K1 (sR M 212 0 (some 213))) : CtD Γ K9 K1 yJ0_init_db425 cJ0_init_db425 5 none (rmL 3 1 2200) l (l ++ [213]) [.inr 212, .inr 210, .inl .null] M none (tsM M n) := by
  refine mkD hT.1 (own := RJ0) rfl (by decide) (fun ad => Nat.le_of_ble_eq_true rfl) (fun ad X C hI E => ?_)
  have hN : HB (gc Γ K9 ad l) := hl.hb hT
  have hm : m ≤ 2200 := hB.2.2.2.2.1
  have hcn : n ≤ m := hB.2.2.2.1
  have C0 := C.gc hl.2.1 ad l
  have on212 : On (gc Γ K9 ad l) 212 (20, 4) := og hl.1.1.2.2 h212 rfl
  have hI := hI rfl
  change G (gc Γ K9 ad l) X M 0 0 [some (.ref (wad (gc Γ K9 ad l) 212)), some (.ref (wad (gc Γ K9 ad l) 210)), some (.null)] [] 0
  refine x_aload_n C0 rfl rfl (dkAt dk_J0_init_db425 0 rfl) 1 rfl ?_
  refine d_obj C ln_RJ0_1 mi_obj cw_obj ⟨Nat.le_of_ble_eq_true rfl, Nat.le_of_ble_eq_true rfl⟩ (Nat.le_of_ble_eq_true rfl) (dkAt dk_J0_init_db425 1 rfl) 4 rfl ?_
  refine x_aload_n C0 rfl rfl (dkAt dk_J0_init_db425 2 rfl) 5 rfl ?_
  refine x_cU C0 (cb_getValue hN hB) mu_RJ0_552 (show RC (gc Γ K9 ad l) 210 RJ4 from ⟨15, 4, _, hN.2.1, rc15, rfl⟩) (ro_of (by decide) (by decide) (by decide) (by decide)) rfl rfl (Nat.le_of_ble_eq_true rfl) (dkAt dk_J0_init_db425 3 rfl) 8 rfl 0 0 rfl rfl ?_
  change G (gc Γ K9 ad l) X M 0 0 [some (.ref (wad (gc Γ K9 ad l) 212)), some (.ref (wad (gc Γ K9 ad l) 210)), some (.null)] [.ref (wad (gc Γ K9 ad l) 211)] 8
  refine x_astore_n C0 (L1 := [some (.ref (wad (gc Γ K9 ad l) 212)), some (.ref (wad (gc Γ K9 ad l) 210)), some (.null), some (.ref (wad (gc Γ K9 ad l) 211))]) (dkAt dk_J0_init_db425 4 rfl) 9 rfl rfl (by decide) rfl ?_
  refine x_aload_n C0 rfl rfl (dkAt dk_J0_init_db425 5 rfl) 10 rfl ?_
  refine x_cU C0 (cb_length hN hB) mu_RJ0_549 (show RC (gc Γ K9 ad l) 210 RJ4 from ⟨15, 4, _, hN.2.1, rc15, rfl⟩) (ro_of (by decide) (by decide) (by decide) (by decide)) rfl rfl (Nat.le_of_ble_eq_true rfl) (dkAt dk_J0_init_db425 6 rfl) 13 rfl 0 0 rfl rfl ?_
  change G (gc Γ K9 ad l) X M 0 0 [some (.ref (wad (gc Γ K9 ad l) 212)), some (.ref (wad (gc Γ K9 ad l) 210)), some (.null), some (.ref (wad (gc Γ K9 ad l) 211))] [.int (nI n)] 13
  refine x_istore C0 (L1 := [some (.ref (wad (gc Γ K9 ad l) 212)), some (.ref (wad (gc Γ K9 ad l) 210)), some (.null), some (.ref (wad (gc Γ K9 ad l) 211)), some (.int (nI n))]) (dkAt dk_J0_init_db425 7 rfl) 15 rfl (by decide) rfl ?_
  refine x_aload_n C0 rfl rfl (dkAt dk_J0_init_db425 8 rfl) 16 rfl ?_
  refine x_cU C0 (cb_isLatin1 hN hB) mu_RJ0_1047 (show RC (gc Γ K9 ad l) 210 RJ4 from ⟨15, 4, _, hN.2.1, rc15, rfl⟩) (ro_of (by decide) (by decide) (by decide) (by decide)) rfl rfl (Nat.le_of_ble_eq_true rfl) (dkAt dk_J0_init_db425 9 rfl) 19 rfl 0 0 rfl rfl ?_
  change G (gc Γ K9 ad l) X M 0 0 [some (.ref (wad (gc Γ K9 ad l) 212)), some (.ref (wad (gc Γ K9 ad l) 210)), some (.null), some (.ref (wad (gc Γ K9 ad l) 211)), some (.int (nI n))] [.int 1] 19
  refine xiF_eq C0 (by decide) 41 (dkAt dk_J0_init_db425 10 rfl) (by decide) 22 rfl ?_
  refine x_aload_n C0 rfl rfl (dkAt dk_J0_init_db425 11 rfl) 23 rfl ?_
  refine x_iconst C0 (v := (0 : Int32)) (by decide) (dkAt dk_J0_init_db425 12 rfl) 24 rfl ?_
  refine x_putFI C0 hI pkJ0_15 rfl on212 (dkAt dk_J0_init_db425 13 rfl) 27 rfl ?_
  refine x_aload_n C0 rfl rfl (dkAt dk_J0_init_db425 14 rfl) 28 rfl ?_
  refine x_aload_n C0 rfl rfl (dkAt dk_J0_init_db425 15 rfl) 29 rfl ?_
  refine x_iconst C0 (v := (0 : Int32)) (by decide) (dkAt dk_J0_init_db425 16 rfl) 30 rfl ?_
  refine x_iload C0 rfl (dkAt dk_J0_init_db425 17 rfl) 32 rfl ?_
  refine G.weak (L := [some (.ref (wad (gc Γ K9 ad l) 212)), some (.ref (wad (gc Γ K9 ad l) 210)), some .null, none, some (.int (nI n))]) (by simp [LSub]) ?_
  refine d_cS C (cb_cor hT hl hB.c0 hz h213 hz3) mw_J7_copyOfRange_39247 ln_RJ0_54 ms_J7_copyOfRange_39247 (ro_of (by decide) (by decide) (by decide) (by decide)) rfl agr.rfl (fun _ h => h) (L := [some (.inr 212), some (.inr 210), some (.inl .null), none, some (.inl (.int (nI n)))]) (st := [.inr 212]) rfl rfl (sv2 hl.1.1.1 h212 rfl) (sv3 hl.1.1.1 h212 rfl) (Nat.le_of_ble_eq_true rfl) (dkAt dk_J0_init_db425 18 rfl) 35 rfl rfl rfl (fun hK2 ad1 hag1 => ?_)
  have hl3 : (l ++ [213]).Nodup := l3_nd hl.1.1.2.2 h213
  refine G.K (K1 := KT) trivial ?_
  have hKT : KR KT := fun _ _ _ _ => trivial
  have C1 := C.gc hKT ad1 (l ++ [213])
  have on212b : On (gc Γ KT ad1 (l ++ [213])) 212 (20, 4) := og hl3 (List.mem_append_left _ h212) rfl
  change G (gc Γ KT ad1 (l ++ [213])) X (rgM (sI M 212 1 0) n) 1 2200 _ [.ref (wad (gc Γ KT ad1 (l ++ [213])) 213), .ref (wad (gc Γ KT ad1 (l ++ [213])) 212)] 35
  refine x_putFR C1 hI (kk := some) (rM := tsM M n) (fun _ _ => trivial) pkJ0_9 ⟨_, rfl⟩ on212b (dkAt dk_J0_init_db425 19 rfl) 38 rfl rfl (fun M1 hM => ?_)
  cases hM
  refine x_goto C1 97 (dkAt dk_J0_init_db425 20 rfl) (by decide) ?_
  exact d_vret C E hag1 (fun _ => hK1 _ hK2) (Nat.le_refl _) (Nat.le_refl _) (dkAt dk_J0_init_db425 50 rfl)
theorem cb_str1 {Γ : WC} (hT : HT Γ) {K9 K1 : Mem → Prop} {l : List Nat} (hl : LB K9 l) {M : Mem} {n m : Nat} (hB : SBM M n m) (h212 : 212 ∈ l) (h213 : 213 ∉ l) (hz : ∀ M, K9 M → ∀ o, o ∈ l → ∀ k, gR M o k ≠ some 213) (hz3 : (∀ k, gI M 213 k = 0) ∧ (∀ k, gL M 213 k = 0) ∧ ∀ k, gR M 213 k = none) (hK1 : ∀ M, K9 M → K1 (sR M 212 0 (some 213))) : CtD Γ K9 K1 yJ0_init_81219 cJ0_init_81219 2 none (rmL 4 1 2200) l (l ++ [213]) [.inr 212, .inr 210] M none (tsM M n) := by
  refine mkD hT.1 (own := RJ0) rfl (by decide) (fun ad => Nat.le_of_ble_eq_true rfl) (fun ad X C hI E => ?_)
  have hN : HB (gc Γ K9 ad l) := hl.hb hT
  have hm : m ≤ 2200 := hB.2.2.2.2.1
  have hcn : n ≤ m := hB.2.2.2.1
  have C0 := C.gc hl.2.1 ad l
  change G (gc Γ K9 ad l) X M 0 0 [some (.ref (wad (gc Γ K9 ad l) 212)), some (.ref (wad (gc Γ K9 ad l) 210))] [] 0
  refine x_aload_n C0 rfl rfl (dkAt dk_J0_init_81219 0 rfl) 1 rfl ?_
  refine x_aload_n C0 rfl rfl (dkAt dk_J0_init_81219 1 rfl) 2 rfl ?_
  refine x_null C0 (dkAt dk_J0_init_81219 2 rfl) 3 rfl ?_
  refine d_cI C (cb_str2 hT hl hB h212 h213 hz hz3 hK1) mw_J0_init_db425 ln_RJ0_489 mii_J0_init_db425 (ro_of (by decide) (by decide) (by decide) (by decide)) rfl agr.rfl (fun _ h => h) (L := [some (.inr 212), some (.inr 210)]) (st := []) rfl rfl (sv2 hl.1.1.1 h212 rfl) (sv3 hl.1.1.1 h212 rfl) (Nat.le_of_ble_eq_true rfl) (dkAt dk_J0_init_81219 3 rfl) 6 rfl rfl rfl (fun hK2 ad1 hag1 => ?_)
  exact d_vret C E hag1 (fun h => h) (Nat.le_refl _) (Nat.le_refl _) (dkAt dk_J0_init_81219 4 rfl)
theorem cb_toString {Γ : WC} (hT : HT Γ) {K9 K1 : Mem → Prop} {l : List Nat} (hl : LB K9 l) {M : Mem} {n m : Nat} (hB : SBM M n m) (h212 : 212 ∉ l) (h213 : 213 ∉ l) (hz : ∀ M, K9 M → ∀ o k, gR M o k ≠ some 212 ∧ gR M o k ≠ some 213) (hz2 : (∀ k, gI M 212 k = 0) ∧ (∀ k, gL M 212 k = 0) ∧ ∀ k, gR M 212 k = none) (hz3 : (∀ k, gI M 213 k = 0) ∧ (∀ k, gL M 213 k = 0) ∧ ∀ k, gR M 213 k = none) (hK1 : ∀ M, K9 M → K1 (sR M 212 0 (some 213))) : CtD Γ K9 K1 yJ4_toString_0e30d cJ4_toString_0e30d 1 (some (.object "java/lang/String")) (rmL 5 2 2204) l (l ++ [212] ++ [213]) [.inr 210] M (some (.inr 212)) (tsM M n) := by
  refine mkD hT.1 (own := RJ4) rfl (by decide) (fun ad => Nat.le_of_ble_eq_true rfl) (fun ad X C hI E => ?_)
  have hN : HB (gc Γ K9 ad l) := hl.hb hT
  have hm : m ≤ 2200 := hB.2.2.2.2.1
  have hcn : n ≤ m := hB.2.2.2.1
  have C0 := C.gc hl.2.1 ad l
  have hl2 := hl.add h212 (by decide)
  have n213 : (213 : Nat) ∉ l ++ [212] := fun z => (List.mem_append.mp z).elim h213 (fun z => absurd (List.mem_singleton.mp z) (by decide))
  change G (gc Γ K9 ad l) X M 0 0 [some (.ref (wad (gc Γ K9 ad l) 210))] [] 0
  refine GK (fun hKM => ?_)
  refine d_new C (n := 212) (ci := 14) (N := 4) rfl rc14 uw14 tyJ0_ok kd_14 kl_RJ4_18 ki_14 kn_14 ⟨⟨h212, by decide⟩, hz2, fun o _ k => (hz M hKM o k).1⟩ ⟨by decide, by decide⟩ agr.rfl (fun _ h => h) (L := [some (.inr 210)]) (st := []) rfl rfl (hl.sL rfl) (hl.sS rfl) (dkAt dk_J4_toString_0e30d 0 rfl) 3 rfl rfl rfl (fun ad1 hag1 => ?_)
  have hag1 : agr l ad ad1 := hag1
  have C1 := C.gc hl.2.1 ad1 (l ++ [212])
  change G (gc Γ K9 ad1 (l ++ [212])) X M 1 4 [some (.ref (wad (gc Γ K9 ad1 (l ++ [212])) 210))] [.ref (wad (gc Γ K9 ad1 (l ++ [212])) 212)] 3
  refine x_dup C1 rfl (dkAt dk_J4_toString_0e30d 1 rfl) 4 rfl ?_
  refine x_aload_n C1 rfl rfl (dkAt dk_J4_toString_0e30d 2 rfl) 5 rfl ?_
  refine d_cI C (cb_str1 hT hl2 hB (List.mem_append_right _ (List.mem_singleton.mpr rfl)) n213 (fun M hM o _ k => (hz M hM o k).2) hz3 hK1) mw_J0_init_81219 ln_RJ4_137 mii_J0_init_81219 (ro_of (by decide) (by decide) (by decide) (by decide)) rfl agr.rfl (fun _ h => h) (L := [some (.inr 210)]) (st := [.inr 212]) rfl rfl (sv2 hl2.1.1.1 (List.mem_append_right _ (List.mem_singleton.mpr rfl)) rfl) (sv3 hl2.1.1.1 (List.mem_append_right _ (List.mem_singleton.mpr rfl)) rfl) (Nat.le_of_ble_eq_true rfl) (dkAt dk_J4_toString_0e30d 3 rfl) 8 rfl rfl rfl (fun hK2 ad2 hag2 => ?_)
  exact d_aret C (Or.inl ⟨_, rfl⟩) E (hag1.trans hag2 (fun o h => List.mem_append_left _ h)) (fun h => h) (Nat.le_refl _) (Nat.le_refl _) (dkAt dk_J4_toString_0e30d 4 rfl)
/-- a builder is new: a row of 29 bytes, and the first text -/
def nbM (M : Mem) : Mem := sR (sL (sI M 210 1 0) 211 0 (lN 29)) 210 0 (some 211)
def zeroM (o : Nat) (M : Mem) : Prop := (∀ k, gI M o k = 0) ∧ (∀ k, gL M o k = 0) ∧ ∀ k, gR M o k = none
theorem nbM_sb {M : Mem} (h0 : zeroM 210 M) (h1 : zeroM 211 M) (h3 : zeroM 300 M) : SBM (nbM M) 0 29 := ⟨h0.1 3, rfl, rfl, by decide, by decide, fun k => by
  show fits .byte (.int (gI M 211 k)) = true
  rw [h1.1 k]
  decide, h3⟩
theorem cb_new5 {Γ : WC} (hT : HT Γ) {K9 K1 : Mem → Prop} {l : List Nat} {M : Mem} (hKR : KR K9) (h210 : 210 ∈ l) (hnd : l.Nodup) (h211 : 211 ∉ l) (hl1 : LB K1 (l ++ [211])) (h0 : zeroM 210 M) (h1 : zeroM 211 M) (h3 : zeroM 300 M) (hz : ∀ M, K9 M → ∀ o, o ∈ l → ∀ k, gR M o k ≠ some 211) (hK1 : ∀ M, K9 M → K1 (sR M 210 0 (some 211))) : CtD Γ K9 K1 yJ5_init_a7421 cJ5_init_a7421 5 none (rmL 7 2 2229) l (l ++ [211]) [.inr 210, .inl (.ref (wst Γ 10))] M none (apM (nbM M) (WL.getD 10 [])) := by
  refine mkD hT.1 (own := RJ5) rfl (by decide) (fun ad => Nat.le_of_ble_eq_true rfl) (fun ad X C hI E => ?_)
  have C0 := C.gc hKR ad l
  have hN : HT (gc Γ K9 ad l) := hT.gc hKR ad l
  have on210 : On (gc Γ K9 ad l) 210 (21, 4) := og hnd h210 rfl
  have ht : 10 < 21 := by decide
  change G (gc Γ K9 ad l) X M 0 0 [some (.ref (wad (gc Γ K9 ad l) 210)), some (.ref (wst Γ 10))] [] 0
  refine x_aload_n C0 rfl rfl (dkAt dk_J5_init_a7421 0 rfl) 1 rfl ?_
  refine d_obj C ln_RJ5_3 mi_obj cw_obj ⟨Nat.le_of_ble_eq_true rfl, Nat.le_of_ble_eq_true rfl⟩ (Nat.le_of_ble_eq_true rfl) (dkAt dk_J5_init_a7421 1 rfl) 4 rfl ?_
  refine x_aload_n C0 rfl rfl (dkAt dk_J5_init_a7421 2 rfl) 5 rfl ?_
  refine x_slen C0 hN ht ln_RJ5_32 ⟨Nat.le_of_ble_eq_true rfl, Nat.le_of_ble_eq_true rfl, Nat.zero_le _, Nat.zero_le _⟩ (Nat.le_of_ble_eq_true rfl) (dkAt dk_J5_init_a7421 3 rfl) 8 rfl ?_
  rw [show (slen 10) = (13 : Int32) from (by decide)]
  refine x_istore_n C0 (L1 := [some (.ref (wad (gc Γ K9 ad l) 210)), some (.ref (wst Γ 10)), some (.int (13 : Int32))]) (dkAt dk_J5_init_a7421 4 rfl) 9 rfl rfl (by decide) rfl ?_
  refine x_iload_n C0 rfl rfl (dkAt dk_J5_init_a7421 5 rfl) 10 rfl ?_
  refine x_ldcI C0 ci_RJ5_38 (dkAt dk_J5_init_a7421 6 rfl) 12 rfl ?_
  refine xcF_ge C0 (by decide) 22 (dkAt dk_J5_init_a7421 7 rfl) (by decide) 15 rfl ?_
  refine x_iload_n C0 rfl rfl (dkAt dk_J5_init_a7421 8 rfl) 16 rfl ?_
  refine x_bipush C0 (v := (16 : Int32)) (by decide) (dkAt dk_J5_init_a7421 9 rfl) 18 rfl ?_
  refine x_iadd C0 (dkAt dk_J5_init_a7421 10 rfl) 19 rfl ?_
  rw [show ((13 : Int32) + (16 : Int32)) = (29 : Int32) from (by decide)]
  refine x_goto C0 24 (dkAt dk_J5_init_a7421 11 rfl) (by decide) ?_
  refine x_istore_n C0 (L1 := [some (.ref (wad (gc Γ K9 ad l) 210)), some (.ref (wst Γ 10)), some (.int (13 : Int32)), some (.int (29 : Int32))]) (dkAt dk_J5_init_a7421 13 rfl) 25 rfl rfl (by decide) rfl ?_
  refine x_aload_n C0 rfl rfl (dkAt dk_J5_init_a7421 14 rfl) 26 rfl ?_
  refine x_cStr C0 hN ht (c_J0_coder_7d493 hN ht) mw_J0_coder_7d493 ln_RJ5_40 mi_J0_coder_7d493 rfl (ro_of (by decide) (by decide) (by decide) (by decide)) rfl rfl (Nat.le_of_ble_eq_true rfl) (dkAt dk_J5_init_a7421 15 rfl) 29 rfl 0 0 rfl rfl ?_
  change G (gc Γ K9 ad l) X M 0 0 [some (.ref (wad (gc Γ K9 ad l) 210)), some (.ref (wst Γ 10)), some (.int (13 : Int32)), some (.int (29 : Int32))] [.int (0 : Int32)] 29
  refine x_istore C0 (L1 := [some (.ref (wad (gc Γ K9 ad l) 210)), some (.ref (wst Γ 10)), some (.int (13 : Int32)), some (.int (29 : Int32)), some (.int (0 : Int32))]) (dkAt dk_J5_init_a7421 16 rfl) 31 rfl (by decide) rfl ?_
  refine x_aload_n C0 rfl rfl (dkAt dk_J5_init_a7421 17 rfl) 32 rfl ?_
  refine x_iload C0 rfl (dkAt dk_J5_init_a7421 18 rfl) 34 rfl ?_
  refine x_putIv C0 pk_RJ5_22 rfl on210 (dkAt dk_J5_init_a7421 19 rfl) 37 rfl ?_
  refine x_aload_n C0 rfl rfl (dkAt dk_J5_init_a7421 20 rfl) 38 rfl ?_
  refine x_iload C0 rfl (dkAt dk_J5_init_a7421 21 rfl) 40 rfl ?_
  refine xiF_ne C0 (fun z => z rfl) 49 (dkAt dk_J5_init_a7421 22 rfl) (by decide) 43 rfl ?_
  refine x_iload_n C0 rfl rfl (dkAt dk_J5_init_a7421 23 rfl) 44 rfl ?_
  refine d_newv (z := 0) C rfl (n := 211) (x := 29) (N := 29) ⟨by decide, by decide, by decide⟩ (fun hK => ⟨⟨h211, by decide⟩, h1, hz _ hK⟩) ⟨by decide, by decide⟩ hKR (dkAt dk_J5_init_a7421 24 rfl) 46 rfl rfl rfl (fun p9 hK9 => ?_)
  refine x_goto C0 53 (dkAt dk_J5_init_a7421 25 rfl) (by decide) ?_
  have hKT : KR KT := fun _ _ _ _ => trivial
  have hl3 := hl1.1.1.2.2
  refine G.K (K1 := KT) trivial ?_
  have C1 := C.gc hKT (adu ad 211 p9) (l ++ [211])
  have on210b : On (gc Γ KT (adu ad 211 p9) (l ++ [211])) 210 (21, 4) := og hl3 (List.mem_append_left _ h210) rfl
  have w210 : (adu ad 211 p9) 210 = ad 210 := adu_ne (by decide)
  have w211 : (adu ad 211 p9) 211 = p9 := adu_n
  change G (gc Γ KT (adu ad 211 p9) (l ++ [211])) X (sL (sI M 210 1 0) 211 0 (lN 29)) 1 29 [some (.ref (ad 210)), some (.ref (wst Γ 10)), some (.int (13 : Int32)), some (.int (29 : Int32)), some (.int (0 : Int32))] [.ref p9, .ref (ad 210)] 53
  rw [← w210, ← w211]
  refine x_putR C1 (kk := some) (rM := nbM M) (fun _ _ => trivial) pk_RJ5_15 ⟨_, rfl⟩ on210b (dkAt dk_J5_init_a7421 28 rfl) 56 rfl rfl (fun M1 hM => ?_)
  cases hM
  refine G.K (K1 := K1) (hK1 _ hK9) ?_
  have C2 := C.gc hl1.2.1 (adu ad 211 p9) (l ++ [211])
  change G (gc Γ K1 (adu ad 211 p9) (l ++ [211])) X (nbM M) 1 29 [some (.ref (wad (gc Γ K1 (adu ad 211 p9) (l ++ [211])) 210)), some (.ref (wst Γ 10)), some (.int (13 : Int32)), some (.int (29 : Int32)), some (.int (0 : Int32))] [] 56
  refine x_aload_n C2 rfl rfl (dkAt dk_J5_init_a7421 29 rfl) 57 rfl ?_
  refine x_aload_n C2 rfl rfl (dkAt dk_J5_init_a7421 30 rfl) 58 rfl ?_
  refine d_cU C (cb_appendB hT hl1 (nbM_sb h0 h1 h3) ht (by decide)) mu_RJ5_43 (show RC (gc Γ K1 (adu ad 211 p9) (l ++ [211])) 210 RJ4 from ⟨15, 4, _, og hl3 (List.mem_append_left _ h210) rfl, rc15, rfl⟩) (ro_of (by decide) (by decide) (by decide) (by decide)) rfl agr.rfl (fun _ h => h) (L := [some (.inr 210), some (.inl (.ref (wst Γ 10))), some (.inl (.int (13 : Int32))), some (.inl (.int (29 : Int32))), some (.inl (.int (0 : Int32)))]) (st := []) rfl rfl (hl1.sL rfl) (hl1.sS rfl) (Nat.le_of_ble_eq_true rfl) (dkAt dk_J5_init_a7421 31 rfl) 61 rfl rfl rfl (fun hK2 ad2 hag2 => ?_)
  have C3 := C.gc hl1.2.1 ad2 (l ++ [211])
  change G (gc Γ K1 ad2 (l ++ [211])) X _ 2 2229 _ [.ref (ad2 210)] 61
  refine x_pop C3 rfl (dkAt dk_J5_init_a7421 32 rfl) 62 rfl ?_
  exact d_vret C E ((adu_agr ⟨h211, by decide⟩).trans hag2 (fun o h => List.mem_append_left _ h)) (fun h => h) (Nat.le_refl _) (Nat.le_refl _) (dkAt dk_J5_init_a7421 33 rfl)
theorem cb_new4 {Γ : WC} (hT : HT Γ) {K9 K1 : Mem → Prop} {l : List Nat} {M : Mem} (hKR : KR K9) (h210 : 210 ∈ l) (hnd : l.Nodup) (h211 : 211 ∉ l) (hl1 : LB K1 (l ++ [211])) (h0 : zeroM 210 M) (h1 : zeroM 211 M) (h3 : zeroM 300 M) (hz : ∀ M, K9 M → ∀ o, o ∈ l → ∀ k, gR M o k ≠ some 211) (hK1 : ∀ M, K9 M → K1 (sR M 210 0 (some 211))) : CtD Γ K9 K1 yJ4_init_a7421 cJ4_init_a7421 2 none (rmL 8 2 2229) l (l ++ [211]) [.inr 210, .inl (.ref (wst Γ 10))] M none (apM (nbM M) (WL.getD 10 [])) := by
  refine mkD hT.1 (own := RJ4) rfl (by decide) (fun ad => Nat.le_of_ble_eq_true rfl) (fun ad X C hI E => ?_)
  have C0 := C.gc hKR ad l
  change G (gc Γ K9 ad l) X M 0 0 [some (.ref (wad (gc Γ K9 ad l) 210)), some (.ref (wst Γ 10))] [] 0
  refine x_aload_n C0 rfl rfl (dkAt dk_J4_init_a7421 0 rfl) 1 rfl ?_
  refine x_aload_n C0 rfl rfl (dkAt dk_J4_init_a7421 1 rfl) 2 rfl ?_
  refine d_cI C (cb_new5 hT hKR h210 hnd h211 hl1 h0 h1 h3 hz hK1) mw_J5_init_a7421 ln_RJ4_7 mii_J5_init_a7421 (ro_of (by decide) (by decide) (by decide) (by decide)) rfl agr.rfl (fun _ h => h) (L := [some (.inr 210), some (.inl (.ref (wst Γ 10)))]) (st := []) rfl rfl (fun v hv => by simp only [List.mem_cons, List.not_mem_nil, or_false, Option.some.injEq] at hv; rcases hv with rfl | rfl <;> first | exact trivial | exact ⟨Or.inl h210, by decide⟩) (fun v hv => nomatch hv) (Nat.le_of_ble_eq_true rfl) (dkAt dk_J4_init_a7421 2 rfl) 5 rfl rfl rfl (fun hK2 ad1 hag1 => ?_)
  exact d_vret C E hag1 (fun h => h) (Nat.le_refl _) (Nat.le_refl _) (dkAt dk_J4_init_a7421 3 rfl)
