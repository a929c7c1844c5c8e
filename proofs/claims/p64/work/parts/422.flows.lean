theorem partsTo_eq {Z : Nat} {M : Mem} {PT : Nat → Nat → Int64} (h : MT 17 M PT) {x y : Nat} (hx : x < 6) (hy : y < 6) : f_X1_partsTo Z M (nI x) (nI y) = some (PT x y, M) := by
  unfold f_X1_partsTo
  simp (disch := omega) only [bd_eq, jn_eq, cl_some, i0, i1, i2, i3, i4, i5, i6, i8, i10, i14, i36, i86, nI_add, nI_mul, rdI_n, rdL_n, wrI_n, wrL_n, nI_ile, nI_ilt]
  rw [h x hx y hy]
/-- the flow of a state at a time -/
def Fl (N : Nat) (T : Nat → Nat → Nat) (st : Nat) : Nat → Nat → Nat
  | 0, x => if x = st then 1 else 0
  | t + 1, y => sm N (fun x => Fl N T st t x * T x y)
theorem sm_add {n : Nat} {f g : Nat → Nat} : sm n (fun i => f i + g i) = sm n f + sm n g := by
  induction n with
  | zero => rfl
  | succ n ih => show sm n _ + (f n + g n) = (sm n f + f n) + (sm n g + g n); rw [ih]; omega
theorem sm_mul {n c : Nat} {f : Nat → Nat} : sm n (fun i => c * f i) = c * sm n f := by
  induction n with
  | zero => rfl
  | succ n ih => show sm n _ + c * f n = c * (sm n f + f n); rw [ih, Nat.mul_add]
theorem sm_zero {n : Nat} : sm n (fun _ => 0) = 0 := by
  induction n with
  | zero => rfl
  | succ n ih => show sm n _ + 0 = 0; rw [ih]
theorem sm_swap {n k : Nat} {f : Nat → Nat → Nat} : sm n (fun i => sm k (f i)) = sm k (fun j => sm n (fun i => f i j)) := by
  induction n with
  | zero => exact sm_zero.symm
  | succ n ih => show sm n _ + sm k (f n) = _; rw [ih, ← sm_add]; rfl
theorem sm_le {n : Nat} {f g : Nat → Nat} (h : ∀ i, i < n → f i ≤ g i) : sm n f ≤ sm n g := by
  induction n with
  | zero => exact Nat.le_refl _
  | succ n ih => exact Nat.add_le_add (ih (fun i hi => h i (by omega))) (h n (by omega))
theorem le_sm {n i : Nat} {f : Nat → Nat} (h : i < n) : f i ≤ sm n f := by
  induction n with
  | zero => omega
  | succ n ih =>
    show f i ≤ sm n f + f n
    by_cases c : i = n
    · rw [c]; omega
    · have := ih (by omega); omega
/-- rows of T sum to at most 1000: so do the flows, in the power of the time -/
theorem Fl_sum {N st : Nat} {T : Nat → Nat → Nat} (hT : ∀ x, x < N → sm N (T x) ≤ 1000) : ∀ t, sm N (Fl N T st t) ≤ 1000 ^ t := by
  intro t
  induction t with
  | zero =>
    show sm N (fun x => if x = st then 1 else 0) ≤ 1
    have key : ∀ n, sm n (fun x => if x = st then 1 else 0) ≤ (if st < n then 1 else 0) := by
      intro n
      induction n with
      | zero => simp [sm]
      | succ n ih =>
        show sm n _ + (if n = st then 1 else 0) ≤ _
        by_cases c : n = st
        · subst c
          rw [if_neg (Nat.lt_irrefl n)] at ih
          simp
          omega
        · rw [if_neg c]
          by_cases d : st < n
          · rw [if_pos d] at ih
            rw [if_pos (by omega)]
            omega
          · rw [if_neg d] at ih
            rw [if_neg (by omega)]
            omega
    have := key N
    split at this <;> omega
  | succ t ih =>
    show sm N (fun y => sm N (fun x => Fl N T st t x * T x y)) ≤ _
    rw [sm_swap]
    have h1 : sm N (fun j => sm N (fun i => Fl N T st t j * T j i)) ≤ sm N (fun j => 1000 * Fl N T st t j) := sm_le (fun j hj => by
      rw [sm_mul, Nat.mul_comm 1000]
      exact Nat.mul_le_mul_left _ (hT j hj))
    rw [sm_mul] at h1
    rw [Nat.pow_succ]
    exact Nat.le_trans h1 (by rw [Nat.mul_comm]; exact Nat.mul_le_mul_right _ ih)
theorem Fl_lt {N st : Nat} {T : Nat → Nat → Nat} (hT : ∀ x, x < N → sm N (T x) ≤ 1000) {t x : Nat} (hx : x < N) (ht : t ≤ 5) : Fl N T st t x ≤ 10 ^ 15 := by
  have h1 := le_sm (f := Fl N T st t) hx
  have h2 := Fl_sum (st := st) hT t
  have h3 : 1000 ^ t ≤ 1000 ^ 5 := Nat.pow_le_pow_right (by decide) ht
  have h4 : (1000 : Nat) ^ 5 = 10 ^ 15 := by decide
  omega

