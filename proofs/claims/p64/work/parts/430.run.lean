theorem hor_congr {F G : Nat → Int64} {n : Nat} (h : ∀ t, t < n → F t = G t) : hor F n = hor G n := by
  induction n with
  | zero => rfl
  | succ n ih =>
    show hor F n * 1000 + F n = hor G n * 1000 + G n
    rw [ih (fun t ht => h t (by omega)), h n (by omega)]
theorem smL_congr {F G : Nat → Int64} {n : Nat} (h : ∀ t, t < n → F t = G t) : smL n F = smL n G := by
  induction n with
  | zero => rfl
  | succ n ih =>
    show smL n F + F n = smL n G + G n
    rw [ih (fun t ht => h t (by omega)), h n (by omega)]
theorem prod64 {w : Nat} {g : Int32} (hw : w ≤ 10) (h1 : -999 ≤ g.toInt) (h2 : g.toInt ≤ 999) : (nI w * g).toInt64 = lN w * g.toInt64 := by
  apply Int64.toInt_inj.mp
  have e1 : (nI w * g).toInt = (w : Int) * g.toInt := by
    rw [Int32.toInt_mul, nI_toInt (by omega)]
    refine Int.bmod_eq_of_le ?_ ?_
    · have : (w : Int) * g.toInt ≥ -(10 * 999) := by
        have := Int.mul_le_mul_of_nonneg_left h1 (show (0 : Int) ≤ w by omega)
        have h9 : (w : Int) * -999 ≥ 10 * -999 := by omega
        omega
      omega
    · have : (w : Int) * g.toInt ≤ 10 * 999 := by
        have := Int.mul_le_mul_of_nonneg_left h2 (show (0 : Int) ≤ w by omega)
        have h9 : (w : Int) * 999 ≤ 10 * 999 := by omega
        omega
      omega
  rw [Int32.toInt_toInt64, e1, Int64.toInt_mul, lN_toI (by omega), Int32.toInt_toInt64]
  refine (Int.bmod_eq_of_le ?_ ?_).symm
  · have : (w : Int) * g.toInt ≥ -(10 * 999) := by
      have := Int.mul_le_mul_of_nonneg_left h1 (show (0 : Int) ≤ w by omega)
      have h9 : (w : Int) * -999 ≥ 10 * -999 := by omega
      omega
    omega
  · have : (w : Int) * g.toInt ≤ 10 * 999 := by
      have := Int.mul_le_mul_of_nonneg_left h2 (show (0 : Int) ≤ w by omega)
      have h9 : (w : Int) * 999 ≤ 10 * 999 := by omega
      omega
    omega
theorem gainOf_eq {Z : Nat} {M : Mem} {N : Nat} {m : Nat → Nat} {pc : Nat → Nat → Nat} (h : ChC M N m pc) (hz : Sz N m pc) (hZ : 40 < Z) {w : Nat} {W : Nat → Nat} {G : Nat → Int32} (hW : ∀ r, r < 3 * N → gI M w r = nI (W r)) (hW10 : ∀ r, W r ≤ 10) (hG : ∀ r, r < 18 → gI M 5 r = G r) (hGb : ∀ r, r < 18 → -999 ≤ (G r).toInt ∧ (G r).toInt ≤ 999) {A : Nat → Nat → Int64} (hA : MT 18 M A) {H : Nat} (h16 : gI M 16 2 = nI H) (h1 : 1 ≤ H) (h5 : H ≤ 5) :
    f_X1_gainOf Z M w = some (smL N (fun x => hor (fun t => A t x) H * smL (m x) (fun a => lN (W (x * 3 + a)) * (G (x * 3 + a)).toInt64)), M) := by
  have hN := hz.1
  generalize hV : (fun x => smL (m x) (fun a => lN (W (x * 3 + a)) * (G (x * 3 + a)).toInt64)) = V
  have hV' : ∀ x, smL (m x) (fun a => lN (W (x * 3 + a)) * (G (x * 3 + a)).toInt64) = V x := fun x => by rw [← hV]
  simp only [hV']
  unfold f_X1_gainOf
  rw [i0]
  refine lpS (σ := Unit) (fun n i _ => f_X1_gainOf_L5 Z w n (smL i (fun x => hor (fun t => A t x) H * V x)) (nI i) M) (fun r => r = some (smL N (fun x => hor (fun t => A t x) H * V x), M)) (fun _ _ => True) 0 N (s := ()) (by omega) (by omega) trivial ?_ ?_
  · intro n x _ _ hx _ K
    have hm := hz.2.1 x
    rw [f_X1_gainOf_L5, bd_eq, h.1]
    simp (disch := omega) only [if_neg (show ¬ N ≤ x by omega), nI_ile]
    generalize hkk : (fun (y14 : Int64) (M15 : Mem) => bd (gI M15 (16) 2) (fun v16 => cl (f_X1_sumOf Z M15 (nI x) (v16 - (1 : Int32))) (fun v17 M18 => f_X1_gainOf_L5 Z w n ((smL x (fun x => hor (fun t => A t x) H * V x)) + (v17 * y14)) (nI x + (1 : Int32)) M18))) = kk
    rw [show (0 : Int64) = smL 0 (fun a => lN (W (x * 3 + a)) * (G (x * 3 + a)).toInt64) from rfl, i0]
    refine lpS (σ := Unit) (fun n' a _ => f_X1_gainOf_L23 Z w (smL x (fun x => hor (fun t => A t x) H * V x)) (nI x) kk n' (smL a (fun a => lN (W (x * 3 + a)) * (G (x * 3 + a)).toInt64)) (nI a) M) (fun r => r = some (smL N (fun x => hor (fun t => A t x) H * V x), M)) (fun _ _ => True) 0 (m x) (s := ()) (by omega) (by omega) trivial ?_ ?_
    · intro n' a _ _ ha _ K3
      have hg := hGb (x * 3 + a) (by omega)
      rw [f_X1_gainOf_L23]
      simp (disch := omega) only [h.2.1 x (by omega), if_neg (show ¬ m x ≤ a by omega), rowOf_eq, hW (x * 3 + a) (by omega), hG (x * 3 + a) (by omega), prod64 (hW10 (x * 3 + a)) hg.1 hg.2, bd_eq, jn_eq, cl_some, i0, i1, i2, i3, i4, i5, i6, i8, i10, i14, i36, i86, nI_add, nI_mul, rdI_n, rdL_n, wrI_n, wrL_n, nI_ile, nI_ilt]
      exact K3 () trivial
    · intro n' _ _
      rw [f_X1_gainOf_L23]
      rw [← hkk]
      simp (disch := omega) only [h.2.1 x (by omega), ge_self, if_true, h16, hV' x, nI_sub h1, sumOf_eq hA (show 20 < Z by omega) (x := x) (l := H - 1) (by omega) (by omega), show H - 1 + 1 = H by omega, bd_eq, jn_eq, cl_some, i0, i1, i2, i3, i4, i5, i6, i8, i10, i14, i36, i86, nI_add, nI_mul, rdI_n, rdL_n, wrI_n, wrL_n, nI_ile, nI_ilt]
      exact K () trivial
  · intro n _ _
    rw [f_X1_gainOf_L5, bd_eq, h.1]
    simp only [ge_self, if_true]

