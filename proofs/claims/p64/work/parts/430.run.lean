theorem hor_congr {F G : Nat → Int64} {n : Nat} (h : ∀ t, t < n → F t = G t) : hor F n = hor G n := by
  induction n with
  | zero => rfl
  | succ n ih =>
    show hor F n * 1000 + F n = hor G n * 1000 + G n
    rw [ih (fun t ht => h t (by omega)), h n (by omega)]
theorem smL_congr {F G : Nat → Int64} {n : Nat} (h : ∀ t, t < n → F t = G t) : smL n F = smL n G := by
  induction n with
  | zero => rfl
  | succ n ih =>
    show smL n F + F n = smL n G + G n
    rw [ih (fun t ht => h t (by omega)), h n (by omega)]
theorem prod64 {w : Nat} {g : Int32} (hw : w ≤ 10) (h1 : -999 ≤ g.toInt) (h2 : g.toInt ≤ 999) : (nI w * g).toInt64 = lN w * g.toInt64 := by
  apply Int64.toInt_inj.mp
  have e1 : (nI w * g).toInt = (w : Int) * g.toInt := by
    rw [Int32.toInt_mul, nI_toInt (by omega)]
    refine Int.bmod_eq_of_le ?_ ?_
    · have : (w : Int) * g.toInt ≥ -(10 * 999) := by
        have := Int.mul_le_mul_of_nonneg_left h1 (show (0 : Int) ≤ w by omega)
        have h9 : (w : Int) * -999 ≥ 10 * -999 := by omega
        omega
      omega
    · have : (w : Int) * g.toInt ≤ 10 * 999 := by
        have := Int.mul_le_mul_of_nonneg_left h2 (show (0 : Int) ≤ w by omega)
        have h9 : (w : Int) * 999 ≤ 10 * 999 := by omega
        omega
      omega
  rw [Int32.toInt_toInt64, e1, Int64.toInt_mul, lN_toI (by omega), Int32.toInt_toInt64]
  refine (Int.bmod_eq_of_le ?_ ?_).symm
  · have : (w : Int) * g.toInt ≥ -(10 * 999) := by
      have := Int.mul_le_mul_of_nonneg_left h1 (show (0 : Int) ≤ w by omega)
      have h9 : (w : Int) * -999 ≥ 10 * -999 := by omega
      omega
    omega
  · have : (w : Int) * g.toInt ≤ 10 * 999 := by
      have := Int.mul_le_mul_of_nonneg_left h2 (show (0 : Int) ≤ w by omega)
      have h9 : (w : Int) * 999 ≤ 10 * 999 := by omega
      omega
    omega
