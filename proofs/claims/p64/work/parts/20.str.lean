/-! the text that the law made: its string 212, its bytes 213 -/
def HTX (Γ : WC) : Prop := HT Γ ∧ On Γ 212 (20, 4) ∧ On Γ 213 (4, 0) ∧ ∀ M, wK Γ M → gR M 212 0 = some 213
/-- a text of n bytes, all below 128 -/
def TXM (M : Mem) (n : Nat) : Prop := gI M 212 1 = 0 ∧ vlen M 213 = n ∧ n < 10000 ∧ ∀ j, j < n → ∃ c, c < 128 ∧ gI M 213 j = nI c
theorem cd_coder {Γ : WC} (hN : HTX Γ) {M : Mem} {n : Nat} (hB : TXM M n) : Ct Γ yJ0_coder_7d493 cJ0_coder_7d493 1 (some .byte) (rmL 0 0 0) [.ref (wad Γ 212)] M (some (.int 0)) M := by
  refine mkN hN.1.1 (own := RJ0) rfl (by decide) (Nat.le_of_ble_eq_true rfl) (fun X C E => ?_)
  change G Γ X M 0 0 [some (.ref (wad Γ 212))] [] 0
  refine x_gsC C hN.1 fl_RJ0_38 (dkAt dk_J0_coder_7d493 0 rfl) 3 rfl ?_
  refine xiF_eq C (by decide) 13 (dkAt dk_J0_coder_7d493 1 rfl) (by decide) 6 rfl ?_
  refine x_aload_n C rfl rfl (dkAt dk_J0_coder_7d493 2 rfl) 7 rfl ?_
  refine x_getIv C lkJ0_15 hN.2.1 (dkAt dk_J0_coder_7d493 3 rfl) 10 rfl ?_
  rw [show (gI M 212 1) = (0 : Int32) from hB.1]
  refine x_goto C 14 (dkAt dk_J0_coder_7d493 4 rfl) (by decide) ?_
  exact x_nret (rM := (0, M)) C E rfl (Nat.le_refl _) (Nat.le_refl _) (dkAt dk_J0_coder_7d493 6 rfl)
theorem cd_isLatin1 {Γ : WC} (hN : HTX Γ) {M : Mem} {n : Nat} (hB : TXM M n) : Ct Γ yJ0_isLatin1_aae02 cJ0_isLatin1_aae02 1 (some .boolean) (rmL 0 0 0) [.ref (wad Γ 212)] M (some (.int 1)) M := by
  refine mkN hN.1.1 (own := RJ0) rfl (by decide) (Nat.le_of_ble_eq_true rfl) (fun X C E => ?_)
  change G Γ X M 0 0 [some (.ref (wad Γ 212))] [] 0
  refine x_gsC C hN.1 fl_RJ0_38 (dkAt dk_J0_isLatin1_aae02 0 rfl) 3 rfl ?_
  refine xiF_eq C (by decide) 17 (dkAt dk_J0_isLatin1_aae02 1 rfl) (by decide) 6 rfl ?_
  refine x_aload_n C rfl rfl (dkAt dk_J0_isLatin1_aae02 2 rfl) 7 rfl ?_
  refine x_getIv C lkJ0_15 hN.2.1 (dkAt dk_J0_isLatin1_aae02 3 rfl) 10 rfl ?_
  rw [show (gI M 212 1) = (0 : Int32) from hB.1]
  refine xiF_ne C (fun z => z rfl) 17 (dkAt dk_J0_isLatin1_aae02 4 rfl) (by decide) 13 rfl ?_
  refine x_iconst C (v := (1 : Int32)) (by decide) (dkAt dk_J0_isLatin1_aae02 5 rfl) 14 rfl ?_
  refine x_goto C 18 (dkAt dk_J0_isLatin1_aae02 6 rfl) (by decide) ?_
  exact x_nret (rM := (0, M)) C E rfl (Nat.le_refl _) (Nat.le_refl _) (dkAt dk_J0_isLatin1_aae02 8 rfl)
theorem cd_length {Γ : WC} (hN : HTX Γ) {M : Mem} {n : Nat} (hB : TXM M n) : Ct Γ yJ0_length_8abf5 cJ0_length_8abf5 1 (some .int) (rmL 1 0 0) [.ref (wad Γ 212)] M (some (.int (nI n))) M := by
  refine mkN hN.1.1 (own := RJ0) rfl (by decide) (Nat.le_of_ble_eq_true rfl) (fun X C E => ?_)
  change G Γ X M 0 0 [some (.ref (wad Γ 212))] [] 0
  refine x_aload_n C rfl rfl (dkAt dk_J0_length_8abf5 0 rfl) 1 rfl ?_
  refine x_getS C lkJ0_9 hN.2.1 hN.2.2.2 (dkAt dk_J0_length_8abf5 1 rfl) 4 rfl ?_
  refine x_alenv C hN.2.2.1 (dkAt dk_J0_length_8abf5 2 rfl) 5 rfl ?_
  rw [show (Int32.ofNat (vlen M 213)) = (nI n) from (show Int32.ofNat (vlen M 213) = nI n by rw [hB.2.1]; rfl)]
  refine x_aload_n C rfl rfl (dkAt dk_J0_length_8abf5 3 rfl) 6 rfl ?_
  refine x_cVi C (cd_coder hN hB) mw_J0_coder_7d493 ln_RJ0_335 mi_J0_coder_7d493 (show RC Γ 212 RJ0 from ⟨14, 4, _, hN.2.1, rc14, rfl⟩) (ro_of (by decide) (by decide) (by decide) (by decide)) rfl rfl (Nat.le_of_ble_eq_true rfl) (dkAt dk_J0_length_8abf5 4 rfl) 9 rfl 0 0 rfl rfl ?_
  refine x_ishr C (dkAt dk_J0_length_8abf5 5 rfl) 10 rfl ?_
  rw [show ((nI n) >>> ((0 : Int32) &&& 31)) = (nI n) from sb_shr0 _]
  exact x_nret (rM := (0, M)) C E rfl (Nat.le_refl _) (Nat.le_refl _) (dkAt dk_J0_length_8abf5 6 rfl)
theorem cd_charAt1 {Γ : WC} (hN : HTX Γ) {M : Mem} {n : Nat} (hB : TXM M n) {j c : Nat} (hj : j < n) (hc : gI M 213 j = nI c ∧ c < 128) : Ct Γ yJ1_charAt_3b067 cJ1_charAt_3b067 2 (some .char) (rmL 2 0 0) [.ref (wad Γ 213), .int (nI j)] M (some (.int (nI c))) M := by
  refine mkN hN.1.1 (own := RJ1) rfl (by decide) (Nat.le_of_ble_eq_true rfl) (fun X C E => ?_)
  have hn := hB.2.2.1
  change G Γ X M 0 0 [some (.ref (wad Γ 213)), some (.int (nI j))] [] 0
  refine x_iload_n C rfl rfl (dkAt dk_J1_charAt_3b067 0 rfl) 1 rfl ?_
  refine x_aload_n C rfl rfl (dkAt dk_J1_charAt_3b067 1 rfl) 2 rfl ?_
  refine x_alenv C hN.2.2.1 (dkAt dk_J1_charAt_3b067 2 rfl) 3 rfl ?_
  rw [show (Int32.ofNat (vlen M 213)) = (nI n) from (show Int32.ofNat (vlen M 213) = nI n by rw [hB.2.1]; rfl)]
  refine x_cSv C (c_J0_checkIndex_df160 hN.1 (nI_pos (by omega)) (nI_lt hj (by omega))) mw_J0_checkIndex_df160 ln_RJ1_9 ms_J0_checkIndex_df160 (ro_of (by decide) (by decide) (by decide) (by decide)) rfl rfl (Nat.le_of_ble_eq_true rfl) (dkAt dk_J1_charAt_3b067 3 rfl) 6 rfl 0 0 rfl rfl ?_
  refine x_aload_n C rfl rfl (dkAt dk_J1_charAt_3b067 4 rfl) 7 rfl ?_
  refine x_iload_n C rfl rfl (dkAt dk_J1_charAt_3b067 5 rfl) 8 rfl ?_
  refine x_baldV C hN.2.2.1 (by rw [hB.2.1]; exact inB_nI hj (by omega)) (dkAt dk_J1_charAt_3b067 6 rfl) 9 rfl ?_
  rw [show (gI M 213 (nI j).toNatClampNeg) = (nI c) from (by rw [nI_clamp (by omega)]; exact hc.1)]
  refine x_sipush C (v := (255 : Int32)) (by decide) (dkAt dk_J1_charAt_3b067 7 rfl) 12 rfl ?_
  refine x_iand C (dkAt dk_J1_charAt_3b067 8 rfl) 13 rfl ?_
  refine x_i2c C (dkAt dk_J1_charAt_3b067 9 rfl) 14 rfl ?_
  rw [show ((nI c &&& 255).toUInt32 % 65536).toInt32 = (nI c) from (ch_i2c c hc.2).1]
  exact x_nret (rM := (0, M)) C E (ch_i2c c hc.2).2 (Nat.le_refl _) (Nat.le_refl _) (dkAt dk_J1_charAt_3b067 10 rfl)
theorem cd_charAt {Γ : WC} (hN : HTX Γ) {M : Mem} {n : Nat} (hB : TXM M n) {j c : Nat} (hj : j < n) (hc : gI M 213 j = nI c ∧ c < 128) : Ct Γ yJ0_charAt_5068e cJ0_charAt_5068e 2 (some .char) (rmL 3 0 0) [.ref (wad Γ 212), .int (nI j)] M (some (.int (nI c))) M := by
  refine mkN hN.1.1 (own := RJ0) rfl (by decide) (Nat.le_of_ble_eq_true rfl) (fun X C E => ?_)
  change G Γ X M 0 0 [some (.ref (wad Γ 212)), some (.int (nI j))] [] 0
  refine x_aload_n C rfl rfl (dkAt dk_J0_charAt_5068e 0 rfl) 1 rfl ?_
  refine x_cVi C (cd_isLatin1 hN hB) mw_J0_isLatin1_aae02 ln_RJ0_492 mi_J0_isLatin1_aae02 (show RC Γ 212 RJ0 from ⟨14, 4, _, hN.2.1, rc14, rfl⟩) (ro_of (by decide) (by decide) (by decide) (by decide)) rfl rfl (Nat.le_of_ble_eq_true rfl) (dkAt dk_J0_charAt_5068e 1 rfl) 4 rfl 0 0 rfl rfl ?_
  refine xiF_eq C (by decide) 16 (dkAt dk_J0_charAt_5068e 2 rfl) (by decide) 7 rfl ?_
  refine x_aload_n C rfl rfl (dkAt dk_J0_charAt_5068e 3 rfl) 8 rfl ?_
  refine x_getS C lkJ0_9 hN.2.1 hN.2.2.2 (dkAt dk_J0_charAt_5068e 4 rfl) 11 rfl ?_
  refine x_iload_n C rfl rfl (dkAt dk_J0_charAt_5068e 5 rfl) 12 rfl ?_
  refine x_cSi C (cd_charAt1 hN hB hj hc) mw_J1_charAt_3b067 ln_RJ0_495 ms_J1_charAt_3b067 (ro_of (by decide) (by decide) (by decide) (by decide)) rfl rfl (Nat.le_of_ble_eq_true rfl) (dkAt dk_J0_charAt_5068e 6 rfl) 15 rfl 0 0 rfl rfl ?_
  exact x_nret (rM := (0, M)) C E (ch_i2c c hc.2).2 (Nat.le_refl _) (Nat.le_refl _) (dkAt dk_J0_charAt_5068e 7 rfl)
