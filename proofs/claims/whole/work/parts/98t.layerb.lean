/-! all cases together: layer B -/
theorem b_sw {Z L a : Nat} {xs : Nat → Int32} {M : Mem} {j : Mem → Option Unit} (hZ : 4000 < Z) (hI : Inv M) (ha : a + 6 ≤ L) (hL : L ≤ 3072) (hj : ∀ M1, Inv M1 → j M1 = some ()) (n : Nat) (hn : n ≤ 60) : swLaw Z L xs M (nI a) j n = some () := by
  match n, hn with
  | 0, _ => exact b_law_0 (xs := xs) hZ hI ha hL hj
  | 1, _ => exact b_law_1 (xs := xs) hZ hI ha hL hj
  | 2, _ => exact b_law_2 (L := L) (xs := xs) (i := nI a) hI hj
  | 3, _ => exact b_law_3 (L := L) (xs := xs) (i := nI a) hI hj
  | 4, _ => exact b_law_4 (L := L) (xs := xs) (i := nI a) hI hj
  | 5, _ => exact b_law_5 (L := L) (xs := xs) (i := nI a) hI hj
  | 6, _ => exact b_law_6 (L := L) (xs := xs) (i := nI a) hI hj
  | 7, _ => exact b_law_7 (L := L) (xs := xs) (i := nI a) hI hj
  | 8, _ => exact b_law_8 (L := L) (xs := xs) (i := nI a) hI hj
  | 9, _ => exact b_law_9 (xs := xs) hZ hI ha hL hj
  | 10, _ => exact b_law_10 (xs := xs) hZ hI ha hL hj
  | 11, _ => exact b_law_11 (xs := xs) hZ hI ha hL hj
  | 12, _ => exact b_law_12 (xs := xs) hZ hI ha hL hj
  | 13, _ => exact b_law_13 (xs := xs) hZ hI ha hL hj
  | 14, _ => exact b_law_14 (xs := xs) hZ hI ha hL hj
  | 15, _ => exact b_law_15 (xs := xs) hZ hI ha hL hj
  | 16, _ => exact b_law_16 (xs := xs) hZ hI ha hL hj
  | 17, _ => exact b_law_17 (xs := xs) hZ hI ha hL hj
  | 18, _ => exact b_law_18 (xs := xs) hZ hI ha hL hj
  | 19, _ => exact b_law_19 (xs := xs) hZ hI ha hL hj
  | 20, _ => exact b_law_20 (xs := xs) hZ hI ha hL hj
  | 21, _ => exact b_law_21 (xs := xs) hZ hI ha hL hj
  | 22, _ => exact b_law_22 (xs := xs) hZ hI ha hL hj
  | 23, _ => exact b_law_23 (xs := xs) hZ hI ha hL hj
  | 24, _ => exact b_law_24 (xs := xs) hZ hI ha hL hj
  | 25, _ => exact b_law_25 (xs := xs) hZ hI ha hL hj
  | 26, _ => exact b_law_26 (xs := xs) hZ hI ha hL hj
  | 27, _ => exact b_law_27 (xs := xs) hZ hI ha hL hj
  | 28, _ => exact b_law_28 (xs := xs) hZ hI ha hL hj
  | 29, _ => exact b_law_29 (xs := xs) hZ hI ha hL hj
  | 30, _ => exact b_law_30 (xs := xs) hZ hI ha hL hj
  | 31, _ => exact b_law_31 (xs := xs) hZ hI ha hL hj
  | 32, _ => exact b_law_32 (xs := xs) hZ hI ha hL hj
  | 33, _ => exact b_law_33 (xs := xs) hZ hI ha hL hj
  | 34, _ => exact b_law_34 (xs := xs) hZ hI ha hL hj
  | 35, _ => exact b_law_35 (xs := xs) hZ hI ha hL hj
  | 36, _ => exact b_law_36 (xs := xs) hZ hI ha hL hj
  | 37, _ => exact b_law_37 (xs := xs) hZ hI ha hL hj
  | 38, _ => exact b_law_38 (xs := xs) hZ hI ha hL hj
  | 39, _ => exact b_law_39 (xs := xs) hZ hI ha hL hj
  | 40, _ => exact b_law_40 (xs := xs) hZ hI ha hL hj
  | 41, _ => exact b_law_41 (xs := xs) hZ hI ha hL hj
  | 42, _ => exact b_law_42 (xs := xs) hZ hI ha hL hj
  | 43, _ => exact b_law_43 (xs := xs) hZ hI ha hL hj
  | 44, _ => exact b_law_44 (xs := xs) hZ hI ha hL hj
  | 45, _ => exact b_law_45 (xs := xs) hZ hI ha hL hj
  | 46, _ => exact b_law_46 (xs := xs) hZ hI ha hL hj
  | 47, _ => exact b_law_47 (xs := xs) hZ hI ha hL hj
  | 48, _ => exact b_law_48 (xs := xs) hZ hI ha hL hj
  | 49, _ => exact b_law_49 (xs := xs) hZ hI ha hL hj
  | 50, _ => exact b_law_50 (xs := xs) hZ hI ha hL hj
  | 51, _ => exact b_law_51 (xs := xs) hZ hI ha hL hj
  | 52, _ => exact b_law_52 (xs := xs) hZ hI ha hL hj
  | 53, _ => exact b_law_53 (xs := xs) hZ hI ha hL hj
  | 54, _ => exact b_law_54 (xs := xs) hZ hI ha hL hj
  | 55, _ => exact b_law_55 (xs := xs) hZ hI ha hL hj
  | 56, _ => exact b_law_56 (xs := xs) hZ hI ha hL hj
  | 57, _ => exact b_law_57 (xs := xs) hZ hI ha hL hj
  | 58, _ => exact b_law_58 (L := L) (xs := xs) (i := nI a) hI hj
  | 59, _ => exact b_law_59 (xs := xs) hZ hI ha hL hj
  | 60, _ => exact b_law_60 (xs := xs) hZ hI ha hL hj
  | n + 61, h => exact absurd h (by omega)
theorem b_lp {Z L : Nat} {xs : Nat → Int32} (hZ : 4000 < Z) (hL : L ≤ 3072) : ∀ (n a : Nat) (M : Mem), 1 ≤ n → L < a + 6 * n → a ≤ 3072 → Inv M → lpLaw Z L xs n M (nI a) = some ()
  | 0, _, _, h, _, _, _ => absurd h (by omega)
  | n + 1, a, M, _, hn, ha, hI => by
    have e6 : (6 : Int32).toInt = 6 := by decide
    have el : (Int32.ofNat L - (6 : Int32)).toInt = (L : Int) - 6 := by
      have h1 : (nI L).toInt = L := nI_toInt (by omega)
      have : (nI L - (6 : Int32)).toInt = ((nI L).toInt - (6 : Int32).toInt).bmod (2 ^ 32) := Int32.toInt_sub _ _
      rw [h1, e6, Int.bmod_eq_of_le (by omega) (by omega)] at this
      exact this
    rw [lpLaw]
    by_cases c : a + 6 ≤ L
    · rw [if_neg (by rw [Int32.lt_iff_toInt_lt, el, nI_toInt (by omega)]; omega), rdX_n (by omega) (by omega), bd_eq, show nI a + (6 : Int32) = nI (a + 6) from nI_add a 6]
      have hrec : ∀ M1, Inv M1 → lpLaw Z L xs n M1 (nI (a + 6)) = some () := fun M1 h1 => b_lp hZ hL n (a + 6) M1 (by omega) (by omega) (by omega) h1
      by_cases d : (xs a &&& 63).toInt < 0 ∨ 60 < (xs a &&& 63).toInt
      · rw [if_pos d]
        exact hrec M hI
      · rw [if_neg d]
        exact b_sw hZ hI c hL hrec _ (by omega)
    · rw [if_pos (by rw [Int32.lt_iff_toInt_lt, el]; rw [nI_toInt (by omega)]; omega)]
theorem MI_inv : Inv MI := by
  refine Inv.mk ⟨by decide +kernel, by decide +kernel, by decide +kernel, fun i hi => absurd hi (by rw [show pn (gI MI 108) 9 = 0 by decide +kernel]; omega)⟩ ⟨by decide +kernel, by decide +kernel⟩ ⟨rfl, by decide +kernel, by decide +kernel, by decide +kernel, fun i hi => absurd hi (by rw [show pn (gI MI 108) 31 = 0 by decide +kernel]; omega)⟩ ⟨by decide +kernel, by decide +kernel⟩ ⟨Or.inl ⟨by decide +kernel, by decide +kernel⟩, fun t => ⟨rfl, rfl⟩⟩ (Or.inl ⟨by decide +kernel, by decide +kernel, by decide +kernel, by decide +kernel, by decide +kernel, by decide +kernel, by decide +kernel, by decide +kernel, by decide +kernel, 0, by decide, by decide +kernel⟩)
theorem layerB (L : Nat) (xs : Nat → Int32) (hL : L ≤ 3072) : ∃ Z, lpLaw Z L xs 600 MI 0 = some () := ⟨5000, b_lp (by decide) hL 600 0 MI (by decide) (by omega) (by decide) MI_inv⟩
