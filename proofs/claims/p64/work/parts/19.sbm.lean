theorem cb_isLatin1 {Γ : WC} (hN : HB Γ) {M : Mem} {n m : Nat} (hB : SBM M n m) : Ct Γ yJ5_isLatin1_aae02 cJ5_isLatin1_aae02 1 (some .boolean) (rmL 0 0 0) [.ref (wad Γ 210)] M (some (.int 1)) M := by
  refine mkN hN.1.1 (own := RJ5) rfl (by decide) (Nat.le_of_ble_eq_true rfl) (fun X C E => ?_)
  change G Γ X M 0 0 [some (.ref (wad Γ 210))] [] 0
  refine x_gsC C hN.1 fl_RJ5_18 (dkAt dk_J5_isLatin1_aae02 0 rfl) 3 rfl ?_
  refine xiF_eq C (by decide) 17 (dkAt dk_J5_isLatin1_aae02 1 rfl) (by decide) 6 rfl ?_
  refine x_aload_n C rfl rfl (dkAt dk_J5_isLatin1_aae02 2 rfl) 7 rfl ?_
  refine x_getIv C lk_RJ5_22 hN.2.1 (dkAt dk_J5_isLatin1_aae02 3 rfl) 10 rfl ?_
  rw [show (gI M 210 1) = (0 : Int32) from hB.2.1]
  refine xiF_ne C (fun z => z rfl) 17 (dkAt dk_J5_isLatin1_aae02 4 rfl) (by decide) 13 rfl ?_
  refine x_iconst C (v := (1 : Int32)) (by decide) (dkAt dk_J5_isLatin1_aae02 5 rfl) 14 rfl ?_
  refine x_goto C 18 (dkAt dk_J5_isLatin1_aae02 6 rfl) (by decide) ?_
  exact x_nret (rM := (0, M)) C E rfl (Nat.le_refl _) (Nat.le_refl _) (dkAt dk_J5_isLatin1_aae02 8 rfl)
theorem cb_length5 {Γ : WC} (hN : HB Γ) {M : Mem} {n m : Nat} (hB : SBM M n m) : Ct Γ yJ5_length_8abf5 cJ5_length_8abf5 1 (some .int) (rmL 0 0 0) [.ref (wad Γ 210)] M (some (.int (nI n))) M := by
  refine mkN hN.1.1 (own := RJ5) rfl (by decide) (Nat.le_of_ble_eq_true rfl) (fun X C E => ?_)
  change G Γ X M 0 0 [some (.ref (wad Γ 210))] [] 0
  refine x_aload_n C rfl rfl (dkAt dk_J5_length_8abf5 0 rfl) 1 rfl ?_
  refine x_getIv C lk_RJ5_79 hN.2.1 (dkAt dk_J5_length_8abf5 1 rfl) 4 rfl ?_
  rw [show (gI M 210 3) = (nI n) from hB.1]
  exact x_nret (rM := (0, M)) C E rfl (Nat.le_refl _) (Nat.le_refl _) (dkAt dk_J5_length_8abf5 2 rfl)
theorem cb_length {Γ : WC} (hN : HB Γ) {M : Mem} {n m : Nat} (hB : SBM M n m) : Ct Γ yJ4_length_8abf5 cJ4_length_8abf5 1 (some .int) (rmL 1 0 0) [.ref (wad Γ 210)] M (some (.int (nI n))) M := by
  refine mkN hN.1.1 (own := RJ4) rfl (by decide) (Nat.le_of_ble_eq_true rfl) (fun X C E => ?_)
  change G Γ X M 0 0 [some (.ref (wad Γ 210))] [] 0
  refine x_aload_n C rfl rfl (dkAt dk_J4_length_8abf5 0 rfl) 1 rfl ?_
  refine x_cSU C (ci := 15) (cb_length5 hN hB) msu_RJ4_343 hN.2.1 rc15 (ro_of (by decide) (by decide) (by decide) (by decide)) rfl rfl (Nat.le_of_ble_eq_true rfl) (dkAt dk_J4_length_8abf5 1 rfl) 4 rfl 0 0 rfl rfl ?_
  exact x_nret (rM := (0, M)) C E rfl (Nat.le_refl _) (Nat.le_refl _) (dkAt dk_J4_length_8abf5 2 rfl)
theorem nI_max {a b : Nat} (ha : a < 2 ^ 31) (hb : b < 2 ^ 31) : (if nI a < nI b then nI b else nI a) = nI (max a b) := by
  by_cases h : a < b
  · rw [if_pos (nI_lt h hb), Nat.max_eq_right (Nat.le_of_lt h)]
  · rw [if_neg (nI_nlt (Nat.le_of_not_lt h) ha), Nat.max_eq_left (Nat.le_of_not_lt h)]
theorem nI_min {a b : Nat} (ha : a < 2 ^ 31) (hb : b < 2 ^ 31) : (if nI b < nI a then nI b else nI a) = nI (min a b) := by
  by_cases h : b < a
  · rw [if_pos (nI_lt h ha), Nat.min_eq_right (Nat.le_of_lt h)]
  · rw [if_neg (nI_nlt (Nat.le_of_not_lt h) hb), Nat.min_eq_left (Nat.le_of_not_lt h)]
def sbcap (q m : Nat) : Nat := m + max (q - m) (m + 2)
theorem cb_newLength {Γ : WC} (hG : HG Γ) {M : Mem} {a g p : Nat} (ha : a < 10000) (hg : g < 10000) (hp : p < 10000) (hp0 : 0 < p) : Ct Γ yJ8_newLength_cabcc cJ8_newLength_cabcc 4 (some .int) (rmL 1 0 0) [.int (nI a), .int (nI g), .int (nI p)] M (some (.int (nI (a + max g p)))) M := by
  refine mkN hG (own := RJ8) rfl (by decide) (Nat.le_of_ble_eq_true rfl) (fun X C E => ?_)
  have h1 : max g p < 10000 := Nat.max_lt.mpr ⟨hg, hp⟩
  have h2 : 0 < max g p := Nat.lt_of_lt_of_le hp0 (Nat.le_max_right _ _)
  change G Γ X M 0 0 [some (.int (nI a)), some (.int (nI g)), some (.int (nI p))] [] 0
  refine x_iload_n C rfl rfl (dkAt dk_J8_newLength_cabcc 0 rfl) 1 rfl ?_
  refine x_iload_n C rfl rfl (dkAt dk_J8_newLength_cabcc 1 rfl) 2 rfl ?_
  refine x_iload_n C rfl rfl (dkAt dk_J8_newLength_cabcc 2 rfl) 3 rfl ?_
  refine x_maxIv C ln_RJ8_194 ⟨Nat.le_of_ble_eq_true rfl, Nat.le_of_ble_eq_true rfl, Nat.le_refl _, Nat.le_refl _⟩ (Nat.le_of_ble_eq_true rfl) (dkAt dk_J8_newLength_cabcc 3 rfl) 6 rfl ?_
  rw [show (if nI g < nI p then nI p else nI g) = (nI (max g p)) from nI_max (by omega) (by omega)]
  refine x_iadd C (dkAt dk_J8_newLength_cabcc 4 rfl) 7 rfl ?_
  rw [show ((nI a) + (nI (max g p))) = (nI (a + max g p)) from nI_add _ _]
  refine x_istore_n C (L1 := [some (.int (nI a)), some (.int (nI g)), some (.int (nI p)), some (.int (nI (a + max g p)))]) (dkAt dk_J8_newLength_cabcc 5 rfl) 8 rfl rfl (by decide) rfl ?_
  refine x_iconst C (v := (0 : Int32)) (by decide) (dkAt dk_J8_newLength_cabcc 6 rfl) 9 rfl ?_
  refine x_iload_n C rfl rfl (dkAt dk_J8_newLength_cabcc 7 rfl) 10 rfl ?_
  refine xcF_ge C (by rw [Int32.not_le]; exact nI_lt (a := 0) (by omega) (by omega)) 21 (dkAt dk_J8_newLength_cabcc 8 rfl) (by decide) 13 rfl ?_
  refine x_iload_n C rfl rfl (dkAt dk_J8_newLength_cabcc 9 rfl) 14 rfl ?_
  refine x_ldcI C ci_RJ8_200 (dkAt dk_J8_newLength_cabcc 10 rfl) 16 rfl ?_
  refine xcF_gt C (fun z => absurd (show nI 2147483639 < nI (a + max g p) from z) (nI_nlt (by omega) (by omega))) 21 (dkAt dk_J8_newLength_cabcc 11 rfl) (by decide) 19 rfl ?_
  refine x_iload_n C rfl rfl (dkAt dk_J8_newLength_cabcc 12 rfl) 20 rfl ?_
  exact x_nret (rM := (0, M)) C E rfl (Nat.le_refl _) (Nat.le_refl _) (dkAt dk_J8_newLength_cabcc 13 rfl)
theorem cb_newCapacity {Γ : WC} (hN : HB Γ) {M : Mem} {n m : Nat} (hB : SBM M n m) {q : Nat} (hq : m ≤ q ∧ q ≤ 1100) : Ct Γ yJ5_newCapacity_0f7a4 cJ5_newCapacity_0f7a4 6 (some .int) (rmL 2 0 0) [.ref (wad Γ 210), .int (nI q)] M (some (.int (nI (sbcap q m)))) M := by
  refine mkN hN.1.1 (own := RJ5) rfl (by decide) (Nat.le_of_ble_eq_true rfl) (fun X C E => ?_)
  have hm : m ≤ 2200 := hB.2.2.2.2.1
  change G Γ X M 0 0 [some (.ref (wad Γ 210)), some (.int (nI q))] [] 0
  refine x_aload_n C rfl rfl (dkAt dk_J5_newCapacity_0f7a4 0 rfl) 1 rfl ?_
  refine x_getS C lk_RJ5_15 hN.2.1 hN.2.2.2 (dkAt dk_J5_newCapacity_0f7a4 1 rfl) 4 rfl ?_
  refine x_alenv C hN.2.2.1 (dkAt dk_J5_newCapacity_0f7a4 2 rfl) 5 rfl ?_
  rw [show (Int32.ofNat (vlen M 211)) = (nI m) from (show Int32.ofNat (vlen M 211) = nI m by rw [hB.2.2.1]; rfl)]
  refine x_istore_n C (L1 := [some (.ref (wad Γ 210)), some (.int (nI q)), some (.int (nI m))]) (dkAt dk_J5_newCapacity_0f7a4 3 rfl) 6 rfl rfl (by decide) rfl ?_
  refine x_iload_n C rfl rfl (dkAt dk_J5_newCapacity_0f7a4 4 rfl) 7 rfl ?_
  refine x_aload_n C rfl rfl (dkAt dk_J5_newCapacity_0f7a4 5 rfl) 8 rfl ?_
  refine x_getIv C lk_RJ5_22 hN.2.1 (dkAt dk_J5_newCapacity_0f7a4 6 rfl) 11 rfl ?_
  rw [show (gI M 210 1) = (0 : Int32) from hB.2.1]
  refine x_ishl C (dkAt dk_J5_newCapacity_0f7a4 7 rfl) 12 rfl ?_
  rw [show ((nI q) <<< ((0 : Int32) &&& 31)) = (nI q) from sb_shl0 _]
  refine x_istore_n C (L1 := [some (.ref (wad Γ 210)), some (.int (nI q)), some (.int (nI m)), some (.int (nI q))]) (dkAt dk_J5_newCapacity_0f7a4 8 rfl) 13 rfl rfl (by decide) rfl ?_
  refine x_iload_n C rfl rfl (dkAt dk_J5_newCapacity_0f7a4 9 rfl) 14 rfl ?_
  refine x_iload_n C rfl rfl (dkAt dk_J5_newCapacity_0f7a4 10 rfl) 15 rfl ?_
  refine x_isub C (dkAt dk_J5_newCapacity_0f7a4 11 rfl) 16 rfl ?_
  rw [show ((nI q) - (nI m)) = (nI (q - m)) from pk_sub hq.1]
  refine x_istore C (L1 := [some (.ref (wad Γ 210)), some (.int (nI q)), some (.int (nI m)), some (.int (nI q)), some (.int (nI (q - m)))]) (dkAt dk_J5_newCapacity_0f7a4 12 rfl) 18 rfl (by decide) rfl ?_
  refine x_iload_n C rfl rfl (dkAt dk_J5_newCapacity_0f7a4 13 rfl) 19 rfl ?_
  refine x_iload C rfl (dkAt dk_J5_newCapacity_0f7a4 14 rfl) 21 rfl ?_
  refine x_iload_n C rfl rfl (dkAt dk_J5_newCapacity_0f7a4 15 rfl) 22 rfl ?_
  refine x_iconst C (v := (2 : Int32)) (by decide) (dkAt dk_J5_newCapacity_0f7a4 16 rfl) 23 rfl ?_
  refine x_aload_n C rfl rfl (dkAt dk_J5_newCapacity_0f7a4 17 rfl) 24 rfl ?_
  refine x_getIv C lk_RJ5_22 hN.2.1 (dkAt dk_J5_newCapacity_0f7a4 18 rfl) 27 rfl ?_
  rw [show (gI M 210 1) = (0 : Int32) from hB.2.1]
  refine x_ishl C (dkAt dk_J5_newCapacity_0f7a4 19 rfl) 28 rfl ?_
  rw [show ((2 : Int32) <<< ((0 : Int32) &&& 31)) = (2 : Int32) from sb_shl0 _]
  refine x_iadd C (dkAt dk_J5_newCapacity_0f7a4 20 rfl) 29 rfl ?_
  rw [show ((nI m) + (2 : Int32)) = (nI (m + 2)) from nI_add m 2]
  refine x_cSi C (cb_newLength hN.1.1 (by omega) (by omega) (by omega) (by omega)) mw_J8_newLength_cabcc ln_RJ5_114 ms_J8_newLength_cabcc (ro_of (by decide) (by decide) (by decide) (by decide)) rfl rfl (Nat.le_of_ble_eq_true rfl) (dkAt dk_J5_newCapacity_0f7a4 21 rfl) 32 rfl 0 0 rfl rfl ?_
  refine x_istore C (L1 := [some (.ref (wad Γ 210)), some (.int (nI q)), some (.int (nI m)), some (.int (nI q)), some (.int (nI (q - m))), some (.int (nI (m + max (q - m) (m + 2))))]) (dkAt dk_J5_newCapacity_0f7a4 22 rfl) 34 rfl (by decide) rfl ?_
  refine x_iload C rfl (dkAt dk_J5_newCapacity_0f7a4 23 rfl) 36 rfl ?_
  refine x_ldcI C ci_RJ5_39 (dkAt dk_J5_newCapacity_0f7a4 24 rfl) 38 rfl ?_
  refine xcT_ne C (fun z => absurd ((nI_eq (b := 2147483647) (by omega) (by omega)).mp z) (by omega)) 51 (dkAt dk_J5_newCapacity_0f7a4 25 rfl) (by decide) ?_
  refine x_iload C rfl (dkAt dk_J5_newCapacity_0f7a4 31 rfl) 53 rfl ?_
  refine x_aload_n C rfl rfl (dkAt dk_J5_newCapacity_0f7a4 32 rfl) 54 rfl ?_
  refine x_getIv C lk_RJ5_22 hN.2.1 (dkAt dk_J5_newCapacity_0f7a4 33 rfl) 57 rfl ?_
  rw [show (gI M 210 1) = (0 : Int32) from hB.2.1]
  refine x_ishr C (dkAt dk_J5_newCapacity_0f7a4 34 rfl) 58 rfl ?_
  rw [show ((nI (m + max (q - m) (m + 2))) >>> ((0 : Int32) &&& 31)) = (nI (m + max (q - m) (m + 2))) from sb_shr0 _]
  exact x_nret (rM := (0, M)) C E rfl (Nat.le_refl _) (Nat.le_refl _) (dkAt dk_J5_newCapacity_0f7a4 35 rfl)
/-- the row that copyOf makes, and the builder's memory behind it -/
def cpM (M : Mem) (N : Nat) : Mem := sW (sL M 300 0 (lN N)) 300 (fun j => if j < vlen M 211 then gI M 211 j else gI M 300 j)
def growM (M : Mem) (q : Nat) : Mem := if q ≤ vlen M 211 then M else mvM (cpM M (sbcap q (vlen M 211)))
theorem cb_copyOf {Γ : WC} (hT : HT Γ) {K9 : Mem → Prop} {l : List Nat} (hl : LB K9 l) {M : Mem} {n m N : Nat} (hB : SBM M n m) (hN : m < N ∧ N ≤ 2200) : CtD Γ K9 K9 yJ7_copyOf_9075b cJ7_copyOf_9075b 3 (some (.array .byte)) (rmL 1 1 2200) l (l ++ [300]) [.inr 211, .inl (.int (nI N))] M (some (.inr 300)) (cpM M N) := by
  refine mkD hT.1 (own := RJ7) rfl (by decide) (fun ad => Nat.le_of_ble_eq_true rfl) (fun ad X C _ E => ?_)
  have hb0 : HB (gc Γ K9 ad l) := hl.hb hT
  have hm : m ≤ 2200 := hB.2.2.2.2.1
  have C0 := C.gc hl.2.1 ad l
  change G (gc Γ K9 ad l) X M 0 0 [some (.ref (ad 211)), some (.int (nI N))] [] 0
  refine x_iload_n C0 rfl rfl (dkAt dk_J7_copyOf_9075b 0 rfl) 1 rfl ?_
  refine x_aload_n C0 rfl rfl (dkAt dk_J7_copyOf_9075b 1 rfl) 2 rfl ?_
  refine x_alenv C0 hb0.2.2.1 (dkAt dk_J7_copyOf_9075b 2 rfl) 3 rfl ?_
  rw [show (Int32.ofNat (vlen M 211)) = (nI m) from (show Int32.ofNat (vlen M 211) = nI m by rw [hB.2.2.1]; rfl)]
  refine xcT_ne C0 (fun z => absurd ((nI_eq (by omega) (by omega)).mp z) (by omega)) 14 (dkAt dk_J7_copyOf_9075b 3 rfl) (by decide) ?_
  refine x_iload_n C0 rfl rfl (dkAt dk_J7_copyOf_9075b 8 rfl) 15 rfl ?_
  refine d_newv (z := 0) C rfl (x := nI N) (N := N) ⟨nI_pos (by omega), nI_clamp (by omega), by omega⟩ (fun hK => hl.nz hK hB) ⟨Nat.le_refl _, by show 0 + N ≤ 2200; omega⟩ hl.2.1 (dkAt dk_J7_copyOf_9075b 9 rfl) 17 rfl rfl rfl (fun p9 hK9 => ?_)
  have hKR := hl.2.1
  have hl3 : (l ++ [300]).Nodup := List.nodup_append.mpr ⟨hl.1.1.2.2, List.nodup_cons.mpr ⟨List.not_mem_nil, List.nodup_nil⟩, fun a ha b hb e => by
    rw [List.mem_singleton.mp hb] at e
    exact hl.1.2 (e ▸ ha)⟩
  have C1 := C.gc hKR (adu ad 300 p9) (l ++ [300])
  have on211 : On (gc Γ K9 (adu ad 300 p9) (l ++ [300])) 211 (4, 0) := og hl3 (List.mem_append_left _ hl.1.1.2.1) rfl
  have on300 : On (gc Γ K9 (adu ad 300 p9) (l ++ [300])) 300 (4, 0) := og hl3 (List.mem_append_right _ (List.mem_singleton.mpr rfl)) rfl
  have v211 : vlen (sL M 300 0 (lN N)) 211 = m := hB.2.2.1
  have v300 : vlen (sL M 300 0 (lN N)) 300 = N := by
    unfold vlen
    rw [gL_sL, if_pos ⟨rfl, rfl⟩, lN_toInt (by omega)]
    rfl
  have w211 : (adu ad 300 p9) 211 = ad 211 := adu_ne (by decide)
  have w300 : (adu ad 300 p9) 300 = p9 := adu_n
  rw [← w211, ← w300, Nat.zero_add]
  refine x_astore_n C1 (L1 := [some (.ref (adu ad 300 p9 211)), some (.int (nI N)), some (.ref (adu ad 300 p9 300))]) (dkAt dk_J7_copyOf_9075b 10 rfl) 18 rfl rfl (by decide) rfl ?_
  refine x_aload_n C1 rfl rfl (dkAt dk_J7_copyOf_9075b 11 rfl) 19 rfl ?_
  refine x_iconst C1 (v := (0 : Int32)) (by decide) (dkAt dk_J7_copyOf_9075b 12 rfl) 20 rfl ?_
  refine x_aload_n C1 rfl rfl (dkAt dk_J7_copyOf_9075b 13 rfl) 21 rfl ?_
  refine x_iconst C1 (v := (0 : Int32)) (by decide) (dkAt dk_J7_copyOf_9075b 14 rfl) 22 rfl ?_
  refine x_aload_n C1 rfl rfl (dkAt dk_J7_copyOf_9075b 15 rfl) 23 rfl ?_
  refine x_alenv C1 on211 (dkAt dk_J7_copyOf_9075b 16 rfl) 24 rfl ?_
  rw [show (Int32.ofNat (vlen (sL M 300 0 (lN N)) 211)) = (nI m) from (show Int32.ofNat (vlen (sL M 300 0 (lN N)) 211) = nI m by rw [v211]; rfl)]
  refine x_iload_n C1 rfl rfl (dkAt dk_J7_copyOf_9075b 17 rfl) 25 rfl ?_
  refine x_minIv C1 ln_RJ7_304 ⟨Nat.le_of_ble_eq_true rfl, Nat.le_of_ble_eq_true rfl, Nat.le_refl _, by show 0 + N ≤ 2200; omega⟩ (Nat.le_of_ble_eq_true rfl) (dkAt dk_J7_copyOf_9075b 18 rfl) 28 rfl ?_
  rw [show (if nI N < nI m then nI N else nI m) = (nI m) from if_neg (nI_nlt (by omega) (by omega))]
  refine x_copyVV C1 on211 on300 (k := m) (na := 0) (nb := 0) ⟨by rw [v211]; exact Nat.le_refl _, by rw [v300]; omega, by omega⟩ hB.2.2.2.2.2.1 ln_RJ7_150 ⟨Nat.le_of_ble_eq_true rfl, Nat.le_of_ble_eq_true rfl⟩ (Nat.le_of_ble_eq_true rfl) (dkAt dk_J7_copyOf_9075b 19 rfl) 31 rfl ?_
  refine x_aload_n C1 rfl rfl (dkAt dk_J7_copyOf_9075b 20 rfl) 32 rfl ?_
  rw [show sW (sL M 300 0 (lN N)) 300 (fun j => if j < m then gI (sL M 300 0 (lN N)) 211 j else gI (sL M 300 0 (lN N)) 300 j) = cpM M N by rw [cpM, hB.2.2.1]; rfl]
  exact d_aret C (Or.inr ⟨_, rfl⟩) E (adu_agr ⟨hl.1.2, by decide⟩) (fun h => h) (Nat.le_refl _) (by show 0 + N ≤ 2200; omega) (dkAt dk_J7_copyOf_9075b 21 rfl)
theorem pk_le0 {a b : Nat} (hb : b < 2 ^ 30) (h : a ≤ b) : nI a - nI b ≤ 0 := by
  rw [Int32.le_iff_toInt_le, pk_sub_toInt (by omega) hb]
  show _ ≤ (0 : Int)
  omega
theorem pk_gt0 {a b : Nat} (ha : a < 2 ^ 30) (h : b < a) : ¬ nI a - nI b ≤ 0 := by
  rw [Int32.le_iff_toInt_le, pk_sub_toInt ha (by omega)]
  show ¬ _ ≤ (0 : Int)
  omega
theorem cb_ensure {Γ : WC} (hT : HT Γ) {K9 : Mem → Prop} {l : List Nat} (hl : LB K9 l) {M : Mem} {n m q : Nat} (hB : SBM M n m) (hq : q ≤ 1100) : CtD Γ K9 K9 yJ5_ensureCapacityInternal_d00df cJ5_ensureCapacityInternal_d00df 3 none (rmL 3 1 2200) l l [.inr 210, .inl (.int (nI q))] M none (growM M q) := by
  refine mkD hT.1 (own := RJ5) rfl (by decide) (fun ad => Nat.le_of_ble_eq_true rfl) (fun ad X C _ E => ?_)
  have hN : HB (gc Γ K9 ad l) := hl.hb hT
  have hm : m ≤ 2200 := hB.2.2.2.2.1
  have C0 := C.gc hl.2.1 ad l
  change G (gc Γ K9 ad l) X M 0 0 [some (.ref (wad (gc Γ K9 ad l) 210)), some (.int (nI q))] [] 0
  refine x_aload_n C0 rfl rfl (dkAt dk_J5_ensureCapacityInternal_d00df 0 rfl) 1 rfl ?_
  refine x_getS C0 lk_RJ5_15 hN.2.1 hN.2.2.2 (dkAt dk_J5_ensureCapacityInternal_d00df 1 rfl) 4 rfl ?_
  refine x_alenv C0 hN.2.2.1 (dkAt dk_J5_ensureCapacityInternal_d00df 2 rfl) 5 rfl ?_
  rw [show (Int32.ofNat (vlen M 211)) = (nI m) from (show Int32.ofNat (vlen M 211) = nI m by rw [hB.2.2.1]; rfl)]
  refine x_aload_n C0 rfl rfl (dkAt dk_J5_ensureCapacityInternal_d00df 3 rfl) 6 rfl ?_
  refine x_getIv C0 lk_RJ5_22 hN.2.1 (dkAt dk_J5_ensureCapacityInternal_d00df 4 rfl) 9 rfl ?_
  rw [show (gI M 210 1) = (0 : Int32) from hB.2.1]
  refine x_ishr C0 (dkAt dk_J5_ensureCapacityInternal_d00df 5 rfl) 10 rfl ?_
  rw [show ((nI m) >>> ((0 : Int32) &&& 31)) = (nI m) from sb_shr0 _]
  refine x_istore_n C0 (L1 := [some (.ref (wad (gc Γ K9 ad l) 210)), some (.int (nI q)), some (.int (nI m))]) (dkAt dk_J5_ensureCapacityInternal_d00df 6 rfl) 11 rfl rfl (by decide) rfl ?_
  refine x_iload_n C0 rfl rfl (dkAt dk_J5_ensureCapacityInternal_d00df 7 rfl) 12 rfl ?_
  refine x_iload_n C0 rfl rfl (dkAt dk_J5_ensureCapacityInternal_d00df 8 rfl) 13 rfl ?_
  refine x_isub C0 (dkAt dk_J5_ensureCapacityInternal_d00df 9 rfl) 14 rfl ?_
  by_cases hqm : q ≤ m
  · refine xiT_le C0 (pk_le0 (by omega) hqm) 38 (dkAt dk_J5_ensureCapacityInternal_d00df 10 rfl) (by decide) ?_
    rw [show growM M q = M by rw [growM, hB.2.2.1, if_pos hqm]] at E
    exact d_vret C E agr.rfl (fun h => h) (Nat.zero_le _) (Nat.zero_le _) (dkAt dk_J5_ensureCapacityInternal_d00df 22 rfl)
  · have hqm2 : m < q := Nat.lt_of_not_le hqm
    have hcap : m < sbcap q m ∧ sbcap q m ≤ 2200 := by unfold sbcap; omega
    refine xiF_le C0 (pk_gt0 (by omega) hqm2) 38 (dkAt dk_J5_ensureCapacityInternal_d00df 10 rfl) (by decide) 17 rfl ?_
    refine x_aload_n C0 rfl rfl (dkAt dk_J5_ensureCapacityInternal_d00df 11 rfl) 18 rfl ?_
    refine x_aload_n C0 rfl rfl (dkAt dk_J5_ensureCapacityInternal_d00df 12 rfl) 19 rfl ?_
    refine x_getS C0 lk_RJ5_15 hN.2.1 hN.2.2.2 (dkAt dk_J5_ensureCapacityInternal_d00df 13 rfl) 22 rfl ?_
    refine x_aload_n C0 rfl rfl (dkAt dk_J5_ensureCapacityInternal_d00df 14 rfl) 23 rfl ?_
    refine x_iload_n C0 rfl rfl (dkAt dk_J5_ensureCapacityInternal_d00df 15 rfl) 24 rfl ?_
    refine x_cU C0 (cb_newCapacity hN hB ⟨Nat.le_of_lt hqm2, hq⟩) mu_RJ5_104 (show RC (gc Γ K9 ad l) 210 RJ4 from ⟨15, 4, _, hN.2.1, rc15, rfl⟩) (ro_of (by decide) (by decide) (by decide) (by decide)) rfl rfl (Nat.le_of_ble_eq_true rfl) (dkAt dk_J5_ensureCapacityInternal_d00df 16 rfl) 27 rfl 0 0 rfl rfl ?_
    change G (gc Γ K9 ad l) X M 0 0 [some (.ref (wad (gc Γ K9 ad l) 210)), some (.int (nI q)), some (.int (nI m))] [.int (nI (sbcap q m)), .ref (wad (gc Γ K9 ad l) 211), .ref (wad (gc Γ K9 ad l) 210)] 27
    refine x_aload_n C0 rfl rfl (dkAt dk_J5_ensureCapacityInternal_d00df 17 rfl) 28 rfl ?_
    refine x_getIv C0 lk_RJ5_22 hN.2.1 (dkAt dk_J5_ensureCapacityInternal_d00df 18 rfl) 31 rfl ?_
    rw [show (gI M 210 1) = (0 : Int32) from hB.2.1]
    refine x_ishl C0 (dkAt dk_J5_ensureCapacityInternal_d00df 19 rfl) 32 rfl ?_
    rw [show ((nI (sbcap q m)) <<< ((0 : Int32) &&& 31)) = (nI (sbcap q m)) from sb_shl0 _]
    refine d_cS C (cb_copyOf hT hl hB hcap) mw_J7_copyOf_9075b ln_RJ5_108 ms_J7_copyOf_9075b (ro_of (by decide) (by decide) (by decide) (by decide)) rfl agr.rfl (fun _ h => h) (L := [some (.inr 210), some (.inl (.int (nI q))), some (.inl (.int (nI m)))]) (st := [.inr 210]) rfl rfl (hl.sL rfl) (hl.sS rfl) (Nat.le_of_ble_eq_true rfl) (dkAt dk_J5_ensureCapacityInternal_d00df 20 rfl) 35 rfl rfl rfl (fun hK1 ad1 hag1 => ?_)
    rw [show growM M q = mvM (cpM M (sbcap q m)) by rw [growM, hB.2.2.1, if_neg hqm]] at E
    have hag : agr l ad ad1 := hag1
    refine d_putMove (ad0 := ad) (l0 := l) (L := [some (.inr 210), some (.inl (.int (nI q))), some (.inl (.int (nI m)))]) (st := []) C hl pk_RJ5_15 hag (fun _ h => h) rfl rfl (hl.sL rfl) (hl.sS rfl) (dkAt dk_J5_ensureCapacityInternal_d00df 21 rfl) 38 rfl (fun ad2 hag2 => ?_)
    exact d_vret C E hag2 (fun h => h) (Nat.le_refl _) (Nat.le_refl _) (dkAt dk_J5_ensureCapacityInternal_d00df 22 rfl)
theorem cb_inflate {Γ : WC} (hN : HB Γ) {M : Mem} {n m : Nat} (hB : SBM M n m) {t : Nat} (ht : t < 21) : Ct Γ yJ5_inflateIfNeededFor_a7421 cJ5_inflateIfNeededFor_a7421 2 none (rmL 1 0 0) [.ref (wad Γ 210), .ref (wst Γ t)] M none M := by
  refine mkN hN.1.1 (own := RJ5) rfl (by decide) (Nat.le_of_ble_eq_true rfl) (fun X C E => ?_)
  change G Γ X M 0 0 [some (.ref (wad Γ 210)), some (.ref (wst Γ t))] [] 0
  refine x_gsC C hN.1 fl_RJ5_18 (dkAt dk_J5_inflateIfNeededFor_a7421 0 rfl) 3 rfl ?_
  refine xiF_eq C (by decide) 21 (dkAt dk_J5_inflateIfNeededFor_a7421 1 rfl) (by decide) 6 rfl ?_
  refine x_aload_n C rfl rfl (dkAt dk_J5_inflateIfNeededFor_a7421 2 rfl) 7 rfl ?_
  refine x_getIv C lk_RJ5_22 hN.2.1 (dkAt dk_J5_inflateIfNeededFor_a7421 3 rfl) 10 rfl ?_
  rw [show (gI M 210 1) = (0 : Int32) from hB.2.1]
  refine x_aload_n C rfl rfl (dkAt dk_J5_inflateIfNeededFor_a7421 4 rfl) 11 rfl ?_
  refine x_cStr C hN.1 ht (c_J0_coder_7d493 hN.1 ht) mw_J0_coder_7d493 ln_RJ5_40 mi_J0_coder_7d493 rfl (ro_of (by decide) (by decide) (by decide) (by decide)) rfl rfl (Nat.le_of_ble_eq_true rfl) (dkAt dk_J5_inflateIfNeededFor_a7421 5 rfl) 14 rfl 0 0 rfl rfl ?_
  change G Γ X M 0 0 [some (.ref (wad Γ 210)), some (.ref (wst Γ t))] [.int (0 : Int32), .int (0 : Int32)] 14
  refine xcT_eq C rfl 21 (dkAt dk_J5_inflateIfNeededFor_a7421 6 rfl) (by decide) ?_
  exact x_vret (rM := ((), M)) C E rfl (Nat.le_refl _) (Nat.le_refl _) (dkAt dk_J5_inflateIfNeededFor_a7421 9 rfl)
/-- bytes behind one another, at a place of the builder's row -/
def putT (M : Mem) (j : Nat) (bs : List Nat) : Mem := sW M 211 (fun k => if j ≤ k ∧ k < j + bs.length then nI (bs.getD (k - j) 0) else gI M 211 k)
theorem cb_getBytes {Γ : WC} (hN : HB Γ) {M : Mem} {n m : Nat} (hB : SBM M n m) {t : Nat} (ht : t < 21) (hf : n + (WL.getD t []).length ≤ m) : Ct Γ yJ0_getBytes_840e7 cJ0_getBytes_840e7 4 none (rmL 1 0 0) [.ref (wst Γ t), .ref (wad Γ 211), .int (nI n), .int (0 : Int32)] M none (putT M n (WL.getD t [])) := by
  refine mkN hN.1.1 (own := RJ0) rfl (by decide) (Nat.le_of_ble_eq_true rfl) (fun X C E => ?_)
  have hm : m ≤ 2200 := hB.2.2.2.2.1
  change G Γ X M 0 0 [some (.ref (wst Γ t)), some (.ref (wad Γ 211)), some (.int (nI n)), some (.int (0 : Int32))] [] 0
  refine x_aload_n C rfl rfl (dkAt dk_J0_getBytes_840e7 0 rfl) 1 rfl ?_
  refine x_cStr C hN.1 ht (c_J0_coder_7d493 hN.1 ht) mw_J0_coder_7d493 ln_RJ0_335 mi_J0_coder_7d493 rfl (ro_of (by decide) (by decide) (by decide) (by decide)) rfl rfl (Nat.le_of_ble_eq_true rfl) (dkAt dk_J0_getBytes_840e7 1 rfl) 4 rfl 0 0 rfl rfl ?_
  change G Γ X M 0 0 [some (.ref (wst Γ t)), some (.ref (wad Γ 211)), some (.int (nI n)), some (.int (0 : Int32))] [.int (0 : Int32)] 4
  refine x_iload_n C rfl rfl (dkAt dk_J0_getBytes_840e7 2 rfl) 5 rfl ?_
  refine xcF_ne C (fun z => z rfl) 28 (dkAt dk_J0_getBytes_840e7 3 rfl) (by decide) 8 rfl ?_
  refine x_aload_n C rfl rfl (dkAt dk_J0_getBytes_840e7 4 rfl) 9 rfl ?_
  refine x_gfV C hN.1 ht fl_RJ0_9 (dkAt dk_J0_getBytes_840e7 5 rfl) 12 rfl ?_
  refine x_iconst C (v := (0 : Int32)) (by decide) (dkAt dk_J0_getBytes_840e7 6 rfl) 13 rfl ?_
  refine x_aload_n C rfl rfl (dkAt dk_J0_getBytes_840e7 7 rfl) 14 rfl ?_
  refine x_iload_n C rfl rfl (dkAt dk_J0_getBytes_840e7 8 rfl) 15 rfl ?_
  refine x_iload_n C rfl rfl (dkAt dk_J0_getBytes_840e7 9 rfl) 16 rfl ?_
  refine x_ishl C (dkAt dk_J0_getBytes_840e7 10 rfl) 17 rfl ?_
  rw [show ((nI n) <<< ((0 : Int32) &&& 31)) = (nI n) from sb_shl0 _]
  refine x_aload_n C rfl rfl (dkAt dk_J0_getBytes_840e7 11 rfl) 18 rfl ?_
  refine x_gfV C hN.1 ht fl_RJ0_9 (dkAt dk_J0_getBytes_840e7 12 rfl) 21 rfl ?_
  refine x_sal C hN.1 ht (dkAt dk_J0_getBytes_840e7 13 rfl) 22 rfl ?_
  refine x_copyT C hN.1 ht (n := 0) (j := n) hN.2.2.1 ⟨rfl, by omega⟩ (by rw [hB.2.2.1]; exact hf) ln_RJ0_212 ⟨Nat.le_of_ble_eq_true rfl, Nat.le_of_ble_eq_true rfl⟩ (Nat.le_of_ble_eq_true rfl) (dkAt dk_J0_getBytes_840e7 14 rfl) 25 rfl ?_
  change G Γ X (putT M n (WL.getD t [])) 0 0 [some (.ref (wst Γ t)), some (.ref (wad Γ 211)), some (.int (nI n)), some (.int (0 : Int32))] [] 25
  refine x_goto C 43 (dkAt dk_J0_getBytes_840e7 15 rfl) (by decide) ?_
  exact x_vret (rM := ((), putT M n (WL.getD t []))) C E rfl (Nat.le_refl _) (Nat.le_refl _) (dkAt dk_J0_getBytes_840e7 25 rfl)
theorem cb_putStringAt {Γ : WC} (hN : HB Γ) {M : Mem} {n m : Nat} (hB : SBM M n m) {t : Nat} (ht : t < 21) (hf : n + (WL.getD t []).length ≤ m) : Ct Γ yJ5_putStringAt_47b60 cJ5_putStringAt_47b60 3 none (rmL 2 0 0) [.ref (wad Γ 210), .int (nI n), .ref (wst Γ t)] M none (putT M n (WL.getD t [])) := by
  refine mkN hN.1.1 (own := RJ5) rfl (by decide) (Nat.le_of_ble_eq_true rfl) (fun X C E => ?_)
  change G Γ X M 0 0 [some (.ref (wad Γ 210)), some (.int (nI n)), some (.ref (wst Γ t))] [] 0
  refine x_aload_n C rfl rfl (dkAt dk_J5_putStringAt_47b60 0 rfl) 1 rfl ?_
  refine x_aload_n C rfl rfl (dkAt dk_J5_putStringAt_47b60 1 rfl) 2 rfl ?_
  refine x_cU C (cb_inflate hN hB ht) mu_RJ5_397 (show RC Γ 210 RJ4 from ⟨15, 4, _, hN.2.1, rc15, rfl⟩) (ro_of (by decide) (by decide) (by decide) (by decide)) rfl rfl (Nat.le_of_ble_eq_true rfl) (dkAt dk_J5_putStringAt_47b60 2 rfl) 5 rfl 0 0 rfl rfl ?_
  change G Γ X M 0 0 [some (.ref (wad Γ 210)), some (.int (nI n)), some (.ref (wst Γ t))] [] 5
  refine x_aload_n C rfl rfl (dkAt dk_J5_putStringAt_47b60 3 rfl) 6 rfl ?_
  refine x_aload_n C rfl rfl (dkAt dk_J5_putStringAt_47b60 4 rfl) 7 rfl ?_
  refine x_getS C lk_RJ5_15 hN.2.1 hN.2.2.2 (dkAt dk_J5_putStringAt_47b60 5 rfl) 10 rfl ?_
  refine x_iload_n C rfl rfl (dkAt dk_J5_putStringAt_47b60 6 rfl) 11 rfl ?_
  refine x_aload_n C rfl rfl (dkAt dk_J5_putStringAt_47b60 7 rfl) 12 rfl ?_
  refine x_getIv C lk_RJ5_22 hN.2.1 (dkAt dk_J5_putStringAt_47b60 8 rfl) 15 rfl ?_
  rw [show (gI M 210 1) = (0 : Int32) from hB.2.1]
  refine x_cStr C hN.1 ht (cb_getBytes hN hB ht hf) mw_J0_getBytes_840e7 ln_RJ5_399 mi_J0_getBytes_840e7 rfl (ro_of (by decide) (by decide) (by decide) (by decide)) rfl rfl (Nat.le_of_ble_eq_true rfl) (dkAt dk_J5_putStringAt_47b60 9 rfl) 18 rfl 0 0 rfl rfl ?_
  change G Γ X (putT M n (WL.getD t [])) 0 0 [some (.ref (wad Γ 210)), some (.int (nI n)), some (.ref (wst Γ t))] [] 18
  exact x_vret (rM := ((), putT M n (WL.getD t []))) C E rfl (Nat.le_refl _) (Nat.le_refl _) (dkAt dk_J5_putStringAt_47b60 10 rfl)
