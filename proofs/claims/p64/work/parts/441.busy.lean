/-- as many things as places: none is free -/
theorem pigeon : ∀ (n : Nat) (f : Nat → Nat), (∀ i, i < n → f i < n) → (∀ i j, i < n → j < n → f i = f j → i = j) → ∀ k, k < n → ∃ i, i < n ∧ f i = k := by
  intro n
  induction n with
  | zero => intro f _ _ k hk; omega
  | succ n ih =>
    intro f hf hi k hk
    by_cases c : f n = k
    · exact ⟨n, by omega, c⟩
    · -- the values below n, with n's own place closed up
      have hl := hf n (by omega)
      obtain ⟨i, h1, h2⟩ := ih (fun i => if f i < f n then f i else f i - 1) (fun i h => by
          have h3 := hf i (by omega)
          have h4 : f i ≠ f n := fun z => absurd (hi i n (by omega) (by omega) z) (by omega)
          split <;> omega) (fun i j h h' e => by
          have h3 : f i ≠ f n := fun z => absurd (hi i n (by omega) (by omega) z) (by omega)
          have h4 : f j ≠ f n := fun z => absurd (hi j n (by omega) (by omega) z) (by omega)
          refine hi i j (by omega) (by omega) ?_
          split at e <;> split at e <;> omega) (if k < f n then k else k - 1) (by split <;> omega)
      refine ⟨i, by omega, ?_⟩
      have h4 : f i ≠ f n := fun z => absurd (hi i n (by omega) (by omega) z) (by omega)
      split at h2 <;> split at h2 <;> omega
/-- y is before x: more visits, or as many and a lesser number -/
def bef (V : Nat → Int64) (y x : Nat) : Bool := decide (V x < V y) || (decide (V y = V x) && decide (y < x))
def rnk (V : Nat → Int64) (N x : Nat) : Nat := sm N (fun y => if bef V y x then 1 else 0)
theorem bef_irr {V : Nat → Int64} {x : Nat} : bef V x x = false := by
  simp [bef, Int64.lt_irrefl]
theorem bef_tot {V : Nat → Int64} {x y : Nat} (h : x ≠ y) : bef V x y = true ∨ bef V y x = true := by
  simp only [bef, Bool.or_eq_true, Bool.and_eq_true, decide_eq_true_eq, Int64.lt_iff_toInt_lt, ← Int64.toInt_inj]
  omega
theorem bef_trans {V : Nat → Int64} {x y z : Nat} (h1 : bef V x y = true) (h2 : bef V y z = true) : bef V x z = true := by
  simp only [bef, Bool.or_eq_true, Bool.and_eq_true, decide_eq_true_eq, Int64.lt_iff_toInt_lt, ← Int64.toInt_inj] at h1 h2 ⊢
  omega
theorem sm_lt {n i : Nat} {f g : Nat → Nat} (h : ∀ i, i < n → f i ≤ g i) (hi : i < n) (h2 : f i < g i) : sm n f < sm n g := by
  induction n with
  | zero => omega
  | succ n ih =>
    show sm n f + f n < sm n g + g n
    have h3 := h n (by omega)
    by_cases c : i = n
    · subst c
      have := sm_le (n := i) (f := f) (g := g) (fun j hj => h j (by omega))
      omega
    · have := ih (fun j hj => h j (by omega)) (by omega)
      omega
theorem rnk_lt {V : Nat → Int64} {N x y : Nat} (hy : y < N) (h : bef V y x = true) : rnk V N y < rnk V N x := by
  refine sm_lt (i := y) (fun z _ => ?_) hy ?_
  · by_cases c : bef V z y = true
    · rw [if_pos c, if_pos (bef_trans c h)]
      exact Nat.le_refl _
    · rw [if_neg c]
      exact Nat.zero_le _
  · rw [if_pos h, bef_irr]
    decide
theorem rnk_N {V : Nat → Int64} {N x : Nat} (hx : x < N) : rnk V N x < N := by
  have key : ∀ n, sm n (fun _ => 1) = n := by
    intro n
    induction n with
    | zero => rfl
    | succ n ih => show sm n _ + 1 = _; rw [ih]
  have h1 : rnk V N x < sm N (fun _ => 1) := sm_lt (i := x) (fun z _ => by split <;> omega) hx (by rw [bef_irr]; decide)
  rw [key] at h1
  exact h1
theorem rnk_inj {V : Nat → Int64} {N x y : Nat} (hx : x < N) (hy : y < N) (h : rnk V N x = rnk V N y) : x = y := by
  refine Classical.byContradiction (fun c => ?_)
  rcases bef_tot (V := V) c with d | d
  · have := rnk_lt (N := N) hx d
    omega
  · have := rnk_lt (N := N) hy d
    omega

