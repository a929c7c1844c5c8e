theorem usedOf_eq {Z : Nat} {M : Mem} {N : Nat} {m : Nat → Nat} {pc : Nat → Nat → Nat} (h : ChC M N m pc) (hz : Sz N m pc) (hZ : 40 < Z) {w : Nat} {W : Nat → Nat} {G : Nat → Nat → Nat} {b : Nat} (hb : b < 3) (hW : ∀ r, r < 3 * N → gI M w r = nI (W r)) (hW10 : ∀ r, W r ≤ 10) (hG : ∀ r, r < 18 → ∀ b, b < 3 → gI M 6 (r * 3 + b) = nI (G r b)) (hGb : ∀ r b, G r b ≤ 99) {A : Nat → Nat → Int64} (hA : MT 18 M A) {H : Nat} (h16 : gI M 16 2 = nI H) (h1 : 1 ≤ H) (h5 : H ≤ 5) :
    f_X1_usedOf Z M w (nI b) = some (smL N (fun x => hor (fun t => A t x) H * smL (m x) (fun a => lN (W (x * 3 + a) * G (x * 3 + a) b))), M) := by
  have hN := hz.1
  generalize hV : (fun x => smL (m x) (fun a => lN (W (x * 3 + a) * G (x * 3 + a) b))) = V
  have hV' : ∀ x, smL (m x) (fun a => lN (W (x * 3 + a) * G (x * 3 + a) b)) = V x := fun x => by rw [← hV]
  simp only [hV']
  unfold f_X1_usedOf
  rw [i0]
  refine lpS (σ := Unit) (fun n i _ => f_X1_usedOf_L5 Z w (nI b) n (smL i (fun x => hor (fun t => A t x) H * V x)) (nI i) M) (fun r => r = some (smL N (fun x => hor (fun t => A t x) H * V x), M)) (fun _ _ => True) 0 N (s := ()) (by omega) (by omega) trivial ?_ ?_
  · intro n x _ _ hx _ K
    have hm := hz.2.1 x
    rw [f_X1_usedOf_L5, bd_eq, h.1]
    simp (disch := omega) only [if_neg (show ¬ N ≤ x by omega), nI_ile]
    generalize hkk : (fun (y14 : Int64) (M15 : Mem) => bd (gI M15 (16) 2) (fun v16 => cl (f_X1_sumOf Z M15 (nI x) (v16 - (1 : Int32))) (fun v17 M18 => f_X1_usedOf_L5 Z w (nI b) n ((smL x (fun x => hor (fun t => A t x) H * V x)) + (v17 * y14)) (nI x + (1 : Int32)) M18))) = kk
    rw [show (0 : Int64) = smL 0 (fun a => lN (W (x * 3 + a) * G (x * 3 + a) b)) from rfl, i0]
    refine lpS (σ := Unit) (fun n' a _ => f_X1_usedOf_L23 Z w (nI b) (smL x (fun x => hor (fun t => A t x) H * V x)) (nI x) kk n' (smL a (fun a => lN (W (x * 3 + a) * G (x * 3 + a) b))) (nI a) M) (fun r => r = some (smL N (fun x => hor (fun t => A t x) H * V x), M)) (fun _ _ => True) 0 (m x) (s := ()) (by omega) (by omega) trivial ?_ ?_
    · intro n' a _ _ ha _ K3
      have hg := hGb (x * 3 + a) b
      have hwg : W (x * 3 + a) * G (x * 3 + a) b ≤ 10 * 99 := Nat.mul_le_mul (hW10 _) hg
      have hp : f_X0_amountOf Z M 3 (nI (x * 3 + a)) (nI b) = some (nI (G (x * 3 + a) b), M) := by
        unfold f_X0_amountOf
        simp (disch := omega) only [bd_eq, jn_eq, cl_some, i0, i1, i2, i3, i4, i5, i6, i8, i10, i14, i36, i86, nI_add, nI_mul, rdI_n, rdL_n, wrI_n, wrL_n, nI_ile, nI_ilt]
        rw [hG _ (by omega) b hb]
      rw [f_X1_usedOf_L23]
      simp (disch := omega) only [h.2.1 x (by omega), if_neg (show ¬ m x ≤ a by omega), rowOf_eq, hW (x * 3 + a) (by omega), hp, nI_l, bd_eq, jn_eq, cl_some, i0, i1, i2, i3, i4, i5, i6, i8, i10, i14, i36, i86, nI_add, nI_mul, rdI_n, rdL_n, wrI_n, wrL_n, nI_ile, nI_ilt]
      exact K3 () trivial
    · intro n' _ _
      rw [f_X1_usedOf_L23]
      rw [← hkk]
      simp (disch := omega) only [h.2.1 x (by omega), ge_self, if_true, h16, hV' x, nI_sub h1, sumOf_eq hA (show 20 < Z by omega) (x := x) (l := H - 1) (by omega) (by omega), show H - 1 + 1 = H by omega, bd_eq, jn_eq, cl_some, i0, i1, i2, i3, i4, i5, i6, i8, i10, i14, i36, i86, nI_add, nI_mul, rdI_n, rdL_n, wrI_n, wrL_n, nI_ile, nI_ilt]
      exact K () trivial
  · intro n _ _
    rw [f_X1_usedOf_L5, bd_eq, h.1]
    simp only [ge_self, if_true]
theorem smL_add {F G : Nat → Int64} {n : Nat} : smL n (fun i => F i + G i) = smL n F + smL n G := by
  induction n with
  | zero => rfl
  | succ n ih =>
    show smL n _ + (F n + G n) = (smL n F + F n) + (smL n G + G n)
    rw [ih]
    grind
theorem smL_mul {F : Nat → Int64} {c : Int64} {n : Nat} : smL n (fun i => c * F i) = c * smL n F := by
  induction n with
  | zero => exact (Int64.mul_zero).symm
  | succ n ih =>
    show smL n _ + c * F n = c * (smL n F + F n)
    rw [ih]
    grind
theorem smL_mulr {F : Nat → Int64} {c : Int64} {n : Nat} : smL n (fun i => F i * c) = smL n F * c := by
  induction n with
  | zero => exact (Int64.zero_mul).symm
  | succ n ih =>
    show smL n _ + F n * c = (smL n F + F n) * c
    rw [ih]
    grind
theorem smL_zero {n : Nat} : smL n (fun _ => 0) = 0 := by
  induction n with
  | zero => rfl
  | succ n ih => show smL n _ + 0 = 0; rw [ih]; rfl
theorem smL_swap {n k : Nat} {F : Nat → Nat → Int64} : smL n (fun i => smL k (F i)) = smL k (fun j => smL n (fun i => F i j)) := by
  induction n with
  | zero => exact smL_zero.symm
  | succ n ih => show smL n _ + smL k (F n) = _; rw [ih, ← smL_add]; rfl
/-- the reference's way of summing is the class's -/
theorem run_sum {N H : Nat} {m : Nat → Nat} {A : Nat → Nat → Int64} {w g : Nat → Nat → Int64} (h1 : 1 ≤ H) : smL H (fun t => smL N (fun x => smL (m x) (fun a => ((A t x * w x a) * g x a) * lN (1000 ^ (H - 1 - t))))) = smL N (fun x => hor (fun t => A t x) H * smL (m x) (fun a => w x a * g x a)) := by
  rw [smL_swap]
  refine smL_congr (fun x hx => ?_)
  have e1 : ∀ t, smL (m x) (fun a => ((A t x * w x a) * g x a) * lN (1000 ^ (H - 1 - t))) = (A t x * lN (1000 ^ (H - 1 - t))) * smL (m x) (fun a => w x a * g x a) := fun t => by
    rw [← smL_mul]
    refine smL_congr (fun a _ => ?_)
    generalize lN (1000 ^ (H - 1 - t)) = q
    grind
  simp only [e1]
  rw [smL_mulr]
  have e2 := hor_sum (F := fun t => A t x) (n := H - 1) H (by omega)
  rw [e2, show H - 1 + 1 - H = 0 by omega]
  show hor _ H * lN 1 * _ = _
  rw [show lN 1 = (1 : Int64) from rfl, Int64.mul_one]

