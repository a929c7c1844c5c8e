theorem smL_add {F G : Nat → Int64} {n : Nat} : smL n (fun i => F i + G i) = smL n F + smL n G := by
  induction n with
  | zero => rfl
  | succ n ih =>
    show smL n _ + (F n + G n) = (smL n F + F n) + (smL n G + G n)
    rw [ih]
    grind
theorem smL_mul {F : Nat → Int64} {c : Int64} {n : Nat} : smL n (fun i => c * F i) = c * smL n F := by
  induction n with
  | zero => exact (Int64.mul_zero).symm
  | succ n ih =>
    show smL n _ + c * F n = c * (smL n F + F n)
    rw [ih]
    grind
theorem smL_mulr {F : Nat → Int64} {c : Int64} {n : Nat} : smL n (fun i => F i * c) = smL n F * c := by
  induction n with
  | zero => exact (Int64.zero_mul).symm
  | succ n ih =>
    show smL n _ + F n * c = (smL n F + F n) * c
    rw [ih]
    grind
theorem smL_zero {n : Nat} : smL n (fun _ => 0) = 0 := by
  induction n with
  | zero => rfl
  | succ n ih => show smL n _ + 0 = 0; rw [ih]; rfl
theorem smL_swap {n k : Nat} {F : Nat → Nat → Int64} : smL n (fun i => smL k (F i)) = smL k (fun j => smL n (fun i => F i j)) := by
  induction n with
  | zero => exact smL_zero.symm
  | succ n ih => show smL n _ + smL k (F n) = _; rw [ih, ← smL_add]; rfl
/-- the reference's way of summing is the class's -/
theorem run_sum {N H : Nat} {m : Nat → Nat} {A : Nat → Nat → Int64} {w g : Nat → Nat → Int64} (h1 : 1 ≤ H) : smL H (fun t => smL N (fun x => smL (m x) (fun a => ((A t x * w x a) * g x a) * lN (1000 ^ (H - 1 - t))))) = smL N (fun x => hor (fun t => A t x) H * smL (m x) (fun a => w x a * g x a)) := by
  rw [smL_swap]
  refine smL_congr (fun x hx => ?_)
  have e1 : ∀ t, smL (m x) (fun a => ((A t x * w x a) * g x a) * lN (1000 ^ (H - 1 - t))) = (A t x * lN (1000 ^ (H - 1 - t))) * smL (m x) (fun a => w x a * g x a) := fun t => by
    rw [← smL_mul]
    refine smL_congr (fun a _ => ?_)
    generalize lN (1000 ^ (H - 1 - t)) = q
    grind
  simp only [e1]
  rw [smL_mulr]
  have e2 := hor_sum (F := fun t => A t x) (n := H - 1) H (by omega)
  rw [e2, show H - 1 + 1 - H = 0 by omega]
  show hor _ H * lN 1 * _ = _
  rw [show lN 1 = (1 : Int64) from rfl, Int64.mul_one]

